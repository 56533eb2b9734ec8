-- ===== what a text comes to =====
/-- what two come to by an act -/
def zop (a x y : Int32) : Int32 := (F_M_reckon z00 ((-100 : Int32) - a) x y).getD 0
def zpush (nm : Nat → Int32) (a : Int32) (st : List Int32) : List Int32 :=
  if (-6) ≤ a ∧ a ≤ 9999 then (if 0 ≤ a then a else nm ((-1 : Int32) - a).toNatClampNeg) :: st
  else if a = (-100) then (-(st.headD 0)) :: st.tail
  else if a = (-101) then (if st.headD 0 = 0 then 1 else 0) :: st.tail
  else zop a (st.tail.headD 0) (st.headD 0) :: st.tail.tail
/-- the pile behind i acts -/
def zst (nm ac : Nat → Int32) : Nat → List Int32
  | 0 => []
  | i + 1 => zpush nm (ac i) (zst nm ac i)
def zmem (nm ac : Nat → Int32) (A : Nat) (μ : zS) : Nat → zS
  | 0 => μ
  | i + 1 => zuI (zmem nm ac A μ i) A ((zst nm ac (i + 1)).length - 1) ((zst nm ac (i + 1)).headD 0)
def zbin (a : Int32) : Prop := a = (-102) ∨ a = (-103) ∨ a = (-160) ∨ a = (-161) ∨ a = (-143) ∨ a = (-145) ∨ a = (-142)
/-- an act is right at a depth -/
def zrt (a : Int32) (d d' : Nat) : Prop := (((-6) ≤ a ∧ a ≤ 9999) ∧ d < 40 ∧ d' = d + 1) ∨ ((a = (-100) ∨ a = (-101)) ∧ 1 ≤ d ∧ d' = d) ∨ (zbin a ∧ 2 ≤ d ∧ d' = d - 1)
theorem reckon_some (u : zS) (s x y : Int32) : F_M_reckon u s x y = some ((F_M_reckon z00 s x y).getD 0) := by
  unfold F_M_reckon
  repeat (first | rfl | split)
theorem M_reck {u : zS} {a x y : Int32} : F_M_reckon u ((-100 : Int32) - a) x y = some (zop a x y) := reckon_some _ _ _ _
theorem X_join {u : zS} {a x y : Int32} (h : zbin a) : F_Text_joined u (ztr a) x y = some (zop a x y) := by
  unfold zop
  rcases h with rfl | rfl | rfl | rfl | rfl | rfl | rfl
  all_goals
    unfold F_Text_joined F_M_reckon
    simp only [show ztr (-102) = 20003 by decide, show ztr (-103) = 20002 by decide, show ztr (-160) = 20004 by decide, show ztr (-161) = 20005 by decide, show ztr (-143) = 20006 by decide, show ztr (-145) = 20007 by decide, show ztr (-142) = 20008 by decide]
    simp only [show ((-100 : Int32) - (-102)) = 2 by decide, show ((-100 : Int32) - (-103)) = 3 by decide, show ((-100 : Int32) - (-160)) = 60 by decide, show ((-100 : Int32) - (-161)) = 61 by decide, show ((-100 : Int32) - (-143)) = 43 by decide, show ((-100 : Int32) - (-145)) = 45 by decide, show ((-100 : Int32) - (-142)) = 42 by decide]
    simp (decide := true) only [if_true, if_false]
    repeat (first | rfl | split)
theorem zrun_app : ∀ (l l2 : List Int32) (d : Nat), zrun (l ++ l2) d = (zrun l d).bind (zrun l2) := by
  intro l
  induction l with
  | nil => intro l2 d; rfl
  | cons a l ih =>
    intro l2 d
    show zrun (a :: (l ++ l2)) d = _
    unfold zrun
    repeat' split
    all_goals first | rfl | exact ih _ _
theorem zrun_one {a : Int32} {d d' : Nat} (h : zrun [a] d = some d') : zrt a d d' := by
  unfold zrun at h
  split at h
  · rename_i h1
    split at h
    · rename_i h2
      exact Or.inl ⟨h1, h2, (Option.some.inj h).symm⟩
    · cases h
  · split at h
    · rename_i h1
      split at h
      · rename_i h2
        exact Or.inr (Or.inl ⟨h1, h2, (Option.some.inj h).symm⟩)
      · cases h
    · split at h
      · rename_i h1
        split at h
        · rename_i h2
          exact Or.inr (Or.inr ⟨h1, h2, (Option.some.inj h).symm⟩)
        · cases h
      · cases h
theorem zrun_pre {ac : Nat → Int32} {D : Nat} : ∀ m, zrun ((List.range m).map ac) 0 = some D → ∀ i, i ≤ m → ∃ d, zrun ((List.range i).map ac) 0 = some d := by
  intro m
  induction m generalizing D with
  | zero => intro h i hi; exact ⟨D, by rw [show i = 0 by omega]; exact h⟩
  | succ m ih =>
    intro h i hi
    by_cases him : i = m + 1
    · subst him; exact ⟨D, h⟩
    · rw [List.range_succ, List.map_append, zrun_app] at h
      cases hz : zrun ((List.range m).map ac) 0 with
      | none => rw [hz] at h; cases h
      | some d => exact ih hz i (by omega)
theorem zrun_step {ac : Nat → Int32} {i d d' : Nat} (h1 : zrun ((List.range i).map ac) 0 = some d) (h2 : zrun ((List.range (i + 1)).map ac) 0 = some d') : zrt (ac i) d d' := by
  rw [List.range_succ, List.map_append, zrun_app, h1] at h2
  exact zrun_one h2
theorem zrun_40 {ac : Nat → Int32} : ∀ i d, zrun ((List.range i).map ac) 0 = some d → d ≤ 40 := by
  intro i
  induction i with
  | zero =>
    intro d h
    have := Option.some.inj h
    omega
  | succ i ih =>
    intro d h
    obtain ⟨d0, h0⟩ := zrun_pre (i + 1) h i (Nat.le_succ i)
    have h1 := ih d0 h0
    rcases zrun_step h0 h with ⟨q1, q2, q3⟩ | ⟨q1, q2, q3⟩ | ⟨q1, q2, q3⟩ <;> omega
theorem zrt_nb {a : Int32} (h : zbin a) : ¬ ((-6) ≤ a ∧ a ≤ 9999) ∧ ¬ a = (-100) ∧ ¬ a = (-101) := by
  rcases h with rfl | rfl | rfl | rfl | rfl | rfl | rfl <;> decide
theorem zpush_1 {nm : Nat → Int32} {a : Int32} {st : List Int32} (h : (-6) ≤ a ∧ a ≤ 9999) : zpush nm a st = (if 0 ≤ a then a else nm ((-1 : Int32) - a).toNatClampNeg) :: st := if_pos h
theorem zpush_2 {nm : Nat → Int32} {st : List Int32} : zpush nm (-100) st = (-(st.headD 0)) :: st.tail := by
  unfold zpush
  rw [if_neg (by decide), if_pos rfl]
theorem zpush_3 {nm : Nat → Int32} {st : List Int32} : zpush nm (-101) st = (if st.headD 0 = 0 then 1 else 0) :: st.tail := by
  unfold zpush
  rw [if_neg (by decide), if_neg (by decide), if_pos rfl]
theorem zpush_4 {nm : Nat → Int32} {a : Int32} {st : List Int32} (h : zbin a) : zpush nm a st = zop a (st.tail.headD 0) (st.headD 0) :: st.tail.tail := by
  obtain ⟨h1, h2, h3⟩ := zrt_nb h
  unfold zpush
  rw [if_neg h1, if_neg h2, if_neg h3]
theorem zst_len {nm ac : Nat → Int32} : ∀ (i d : Nat), zrun ((List.range i).map ac) 0 = some d → (zst nm ac i).length = d := by
  intro i
  induction i with
  | zero => intro d h; exact Option.some.inj h
  | succ i ih =>
    intro d h
    obtain ⟨d0, h0⟩ := zrun_pre (i + 1) h i (Nat.le_succ i)
    have hl := ih d0 h0
    show (zpush nm (ac i) (zst nm ac i)).length = d
    rcases zrun_step h0 h with ⟨q1, q2, q3⟩ | ⟨q1, q2, q3⟩ | ⟨q1, q2, q3⟩
    · rw [zpush_1 q1, List.length_cons, hl, q3]
    · rcases q1 with q1 | q1
      · rw [q1, zpush_2, List.length_cons, List.length_tail, hl]; omega
      · rw [q1, zpush_3, List.length_cons, List.length_tail, hl]; omega
    · rw [zpush_4 q1, List.length_cons, List.length_tail, List.length_tail, hl]; omega
/-- the lowest so many of a row are the pile -/
def zrow (row : Nat → Int32) (st : List Int32) : Prop := ∀ k, k < st.length → row k = st.getD (st.length - 1 - k) 0
theorem zrow_top {row : Nat → Int32} {st : List Int32} (h : zrow row st) (h1 : 1 ≤ st.length) : row (st.length - 1) = st.headD 0 := by
  rw [h _ (by omega), show st.length - 1 - (st.length - 1) = 0 by omega]
  cases st <;> rfl
theorem zrow_top2 {row : Nat → Int32} {st : List Int32} (h : zrow row st) (h1 : 2 ≤ st.length) : row (st.length - 1 - 1) = st.tail.headD 0 := by
  rw [h _ (by omega), show st.length - 1 - (st.length - 1 - 1) = 1 by omega]
  cases st with
  | nil => rfl
  | cons x l => cases l <;> rfl
theorem zrow_cons {row : Nat → Int32} {st : List Int32} {v : Int32} (h : zrow row st) : zrow (fun k => if k = st.length then v else row k) (v :: st) := by
  intro k hk
  show (if k = st.length then v else row k) = (v :: st).getD ((v :: st).length - 1 - k) 0
  rw [List.length_cons] at hk ⊢
  by_cases hks : k = st.length
  · rw [if_pos hks, show st.length + 1 - 1 - k = 0 by omega]; rfl
  · rw [if_neg hks, h k (by omega), show st.length + 1 - 1 - k = (st.length - 1 - k) + 1 by omega, List.getD_cons_succ]
theorem zrow_tail {row : Nat → Int32} {st : List Int32} (h : zrow row st) : zrow row st.tail := by
  intro k hk
  rw [List.length_tail] at hk ⊢
  rw [h k (by omega)]
  cases st with
  | nil => rfl
  | cons x l =>
    rw [List.length_cons] at hk ⊢
    rw [show l.length + 1 - 1 - k = (l.length + 1 - 1 - 1 - k) + 1 by omega, List.getD_cons_succ]; rfl
theorem zrow_c {row row' : Nat → Int32} {st : List Int32} (h : zrow row st) (he : ∀ k, k < st.length → row' k = row k) : zrow row' st := fun k hk => (he k hk).trans (h k hk)
theorem zmem_row {nm ac : Nat → Int32} {A : Nat} {μ : zS} : ∀ (i d : Nat), zrun ((List.range i).map ac) 0 = some d → zrow (fun k => (zmem nm ac A μ i).2.1 A k) (zst nm ac i) := by
  intro i
  induction i with
  | zero => intro d h k hk; exact absurd hk (Nat.not_lt_zero k)
  | succ i ih =>
    intro d h
    obtain ⟨d0, h0⟩ := zrun_pre (i + 1) h i (Nat.le_succ i)
    have hr := ih d0 h0
    have hl := zst_len (nm := nm) i d0 h0
    have hst : zst nm ac (i + 1) = zpush nm (ac i) (zst nm ac i) := rfl
    have hat : ∀ k, (zmem nm ac A μ (i + 1)).2.1 A k = if k = (zst nm ac (i + 1)).length - 1 then (zst nm ac (i + 1)).headD 0 else (zmem nm ac A μ i).2.1 A k := by
      intro k
      show (if A = A ∧ k = _ then _ else _) = _
      simp only [true_and]
    have key : ∀ (t : List Int32) (v : Int32), zrow (fun k => (zmem nm ac A μ i).2.1 A k) t → zst nm ac (i + 1) = v :: t → zrow (fun k => (zmem nm ac A μ (i + 1)).2.1 A k) (zst nm ac (i + 1)) := by
      intro t v ht hv
      have := zrow_cons (v := v) ht
      refine zrow_c (row := fun k => if k = t.length then v else (zmem nm ac A μ i).2.1 A k) ?_ ?_
      · rw [hv]; exact this
      · intro k hk
        show (zmem nm ac A μ (i + 1)).2.1 A k = _
        rw [hat k, hv]
        rfl
    rcases zrun_step h0 h with ⟨q1, q2, q3⟩ | ⟨q1, q2, q3⟩ | ⟨q1, q2, q3⟩
    · exact key _ _ hr (by rw [hst, zpush_1 q1])
    · rcases q1 with q1 | q1
      · exact key _ _ (zrow_tail hr) (by rw [hst, q1, zpush_2])
      · exact key _ _ (zrow_tail hr) (by rw [hst, q1, zpush_3])
    · exact key _ _ (zrow_tail (zrow_tail hr)) (by rw [hst, zpush_4 q1])
theorem zmem_off {nm ac : Nat → Int32} {A : Nat} {μ : zS} (i : Nat) : (zmem nm ac A μ i).1 = μ.1 ∧ (zmem nm ac A μ i).2.2 = μ.2.2 ∧ ∀ a k, a ≠ A → (zmem nm ac A μ i).2.1 a k = μ.2.1 a k := by
  induction i with
  | zero => exact ⟨rfl, rfl, fun _ _ _ => rfl⟩
  | succ i ih =>
    refine ⟨ih.1, ih.2.1, fun a k ha => ?_⟩
    show (if a = A ∧ k = _ then _ else _) = _
    rw [if_neg (fun q => ha q.1)]
    exact ih.2.2 a k ha
theorem zmem_fr {nm ac : Nat → Int32} {A : Nat} {μ : zS} (h : zFr μ) (i : Nat) : zFr (zmem nm ac A μ i) := by
  induction i with
  | zero => exact h
  | succ i ih => exact fr_uI ih
