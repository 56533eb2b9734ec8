-- ===== who is enough: Hall's theorem =====
def yex (P : Nat → Bool) : Nat → Bool
  | 0 => false
  | n + 1 => yex P n || P n
theorem yex_i {P : Nat → Bool} : ∀ {n : Nat}, yex P n = true ↔ ∃ i, i < n ∧ P i = true
  | 0 => ⟨fun h => (by cases h), fun ⟨i, h, _⟩ => absurd h (Nat.not_lt_zero i)⟩
  | n + 1 => by
    show (yex P n || P n) = true ↔ _
    rw [Bool.or_eq_true, yex_i (n := n)]
    constructor
    · rintro (⟨i, h1, h2⟩ | h)
      · exact ⟨i, by omega, h2⟩
      · exact ⟨n, by omega, h⟩
    · rintro ⟨i, h1, h2⟩
      by_cases hi : i = n
      · subst hi; exact Or.inr h2
      · exact Or.inl ⟨i, by omega, h2⟩
theorem zct_oa (A B : Nat → Bool) : ∀ n, zct (fun i => A i || B i) n + zct (fun i => A i && B i) n = zct A n + zct B n
  | 0 => rfl
  | n + 1 => by
    have ih := zct_oa A B n
    rw [zct_s, zct_s, zct_s, zct_s]
    cases A n <;> cases B n <;> simp <;> omega
theorem zct_mo {A B : Nat → Bool} : ∀ {n}, (∀ i, i < n → A i = true → B i = true) → zct A n ≤ zct B n
  | 0, _ => Nat.le_refl _
  | n + 1, h => by
    have ih := zct_mo (n := n) (fun i hi => h i (by omega))
    have hn := h n (by omega)
    rw [zct_s, zct_s]
    cases hA : A n
    · simp; omega
    · rw [hn hA]; simp; omega
theorem zct_m1 {A B : Nat → Bool} {w : Nat} : ∀ {n}, w < n → (∀ i, i < n → A i = true → B i = true) → A w = false → B w = true → zct A n + 1 ≤ zct B n
  | 0, hw, _, _, _ => absurd hw (Nat.not_lt_zero w)
  | n + 1, hw, h, ha, hb => by
    rw [zct_s, zct_s]
    by_cases hwn : w = n
    · subst hwn
      rw [ha, hb]
      have := zct_mo (n := w) (fun i hi => h i (by omega))
      simp; omega
    · have ih := zct_m1 (n := n) (by omega) (fun i hi => h i (by omega)) ha hb
      have hn := h n (by omega)
      cases hA : A n
      · simp; omega
      · rw [hn hA]; simp; omega
theorem zct_a1 {A B : Nat → Bool} {w : Nat} : ∀ {n}, w < n → (∀ i, i < n → B i = (A i || (i == w))) → A w = false → zct B n = zct A n + 1
  | 0, hw, _, _ => absurd hw (Nat.not_lt_zero w)
  | n + 1, hw, h, ha => by
    rw [zct_s, zct_s]
    by_cases hwn : w = n
    · subst hwn
      rw [h w (by omega), ha]
      have : zct B w = zct A w := zct_cg (fun i hi => by
        rw [h i (by omega)]
        have : (i == w) = false := by rw [beq_eq_false_iff_ne]; omega
        rw [this, Bool.or_false])
      rw [this]
      simp
    · rw [zct_a1 (n := n) (by omega) (fun i hi => h i (by omega)) ha, h n (by omega)]
      have : (n == w) = false := by rw [beq_eq_false_iff_ne]; omega
      rw [this, Bool.or_false]
      omega
theorem zct_0 : ∀ {A : Nat → Bool} {n}, (∀ i, i < n → A i = false) → zct A n = 0
  | _, 0, _ => rfl
  | A, n + 1, h => by
    rw [zct_s, zct_0 (n := n) (fun i hi => h i (by omega)), h n (by omega)]; rfl
/-- one can do some of a set of posts -/
def yrb (C : Nat → Nat → Bool) (n S w : Nat) : Bool := yex (fun q => S.testBit q && C w q) n
/-- how many of those who are free can do some of a set of posts -/
def yrc (C : Nat → Nat → Bool) (n p S : Nat) (F : Nat → Bool) : Nat := zct (fun w => yrb C n S w && F w) p
/-- a set of posts that must be filled, from one on -/
def yms (n : Nat) (mu : Nat → Bool) (q0 S : Nat) : Prop := S < 2 ^ n ∧ ∀ q, S.testBit q = true → mu q = true ∧ q0 ≤ q
def yH (C : Nat → Nat → Bool) (n p : Nat) (mu : Nat → Bool) (q0 : Nat) (F : Nat → Bool) : Prop := ∀ S, yms n mu q0 S → zct S.testBit n ≤ yrc C n p S F
def yrm (F : Nat → Bool) (w : Nat) : Nat → Bool := fun j => F j && !(j == w)
/-- whether the last k posts can be filled by those who are free -/
def yfl (C : Nat → Nat → Bool) (n p : Nat) (mu : Nat → Bool) : Nat → (Nat → Bool) → Bool
  | 0, _ => true
  | k + 1, F => (!mu (n - (k + 1)) && yfl C n p mu k F) || yex (fun w => F w && C w (n - (k + 1)) && yfl C n p mu k (yrm F w)) p
section H
variable {C : Nat → Nat → Bool} {n p : Nat} {mu : Nat → Bool} {F : Nat → Bool}
theorem yrb_mo {S T w : Nat} (h : ∀ q, S.testBit q = true → T.testBit q = true) (hw : yrb C n S w = true) : yrb C n T w = true := by
  obtain ⟨q, h1, h2⟩ := yex_i.mp hw
  rw [Bool.and_eq_true] at h2
  exact yex_i.mpr ⟨q, h1, by rw [Bool.and_eq_true]; exact ⟨h q h2.1, h2.2⟩⟩
theorem yrb_or {S T w : Nat} : yrb C n (S ||| T) w = (yrb C n S w || yrb C n T w) := by
  rw [Bool.eq_iff_iff, Bool.or_eq_true]
  constructor
  · intro h
    obtain ⟨q, h1, h2⟩ := yex_i.mp h
    rw [Bool.and_eq_true, Nat.testBit_or, Bool.or_eq_true] at h2
    rcases h2.1 with z | z
    · exact Or.inl (yex_i.mpr ⟨q, h1, by rw [Bool.and_eq_true]; exact ⟨z, h2.2⟩⟩)
    · exact Or.inr (yex_i.mpr ⟨q, h1, by rw [Bool.and_eq_true]; exact ⟨z, h2.2⟩⟩)
  · rintro (h | h)
    · exact yrb_mo (fun q hq => by rw [Nat.testBit_or, hq]; rfl) h
    · exact yrb_mo (fun q hq => by rw [Nat.testBit_or, hq, Bool.or_true]) h
theorem yrb_1 {q w : Nat} (hq : q < n) : yrb C n (2 ^ q) w = C w q := by
  rw [Bool.eq_iff_iff]
  constructor
  · intro h
    obtain ⟨j, h1, h2⟩ := yex_i.mp h
    rw [Bool.and_eq_true, Nat.testBit_two_pow] at h2
    rw [of_decide_eq_true h2.1]; exact h2.2
  · intro h
    exact yex_i.mpr ⟨q, hq, by rw [Bool.and_eq_true, Nat.testBit_two_pow]; exact ⟨decide_eq_true rfl, h⟩⟩
theorem yrb_0 {w : Nat} : yrb C n 0 w = false := by
  cases h : yrb C n 0 w with
  | false => rfl
  | true =>
    obtain ⟨q, h1, h2⟩ := yex_i.mp h
    rw [Nat.zero_testBit, Bool.false_and] at h2
    cases h2
theorem yms_or {q0 S T : Nat} (h1 : yms n mu q0 S) (h2 : yms n mu q0 T) : yms n mu q0 (S ||| T) := by
  refine ⟨Nat.or_lt_two_pow h1.1 h2.1, fun q hq => ?_⟩
  rw [Nat.testBit_or, Bool.or_eq_true] at hq
  exact hq.elim (h1.2 q) (h2.2 q)
theorem yms_and {q0 S T : Nat} (h1 : yms n mu q0 S) : yms n mu q0 (S &&& T) := by
  refine ⟨Nat.lt_of_le_of_lt Nat.and_le_left h1.1, fun q hq => ?_⟩
  rw [Nat.testBit_and, Bool.and_eq_true] at hq
  exact h1.2 q hq.1
/-- tight sets: their union is tight -/
theorem ytight {q0 S T : Nat} (h : yH C n p mu q0 F) (hS : yms n mu q0 S) (hT : yms n mu q0 T) (tS : yrc C n p S F ≤ zct S.testBit n) (tT : yrc C n p T F ≤ zct T.testBit n) : yrc C n p (S ||| T) F ≤ zct (S ||| T).testBit n := by
  have h1 := h _ (yms_and (T := T) hS)
  have e1 := zct_oa S.testBit T.testBit n
  have e2 := zct_oa (fun w => yrb C n S w && F w) (fun w => yrb C n T w && F w) p
  have c1 : zct (S ||| T).testBit n = zct (fun i => S.testBit i || T.testBit i) n := zct_cg (fun i _ => Nat.testBit_or _ _ _)
  have c2 : zct (S &&& T).testBit n = zct (fun i => S.testBit i && T.testBit i) n := zct_cg (fun i _ => Nat.testBit_and _ _ _)
  have c3 : yrc C n p (S ||| T) F = zct (fun w => (yrb C n S w && F w) || (yrb C n T w && F w)) p := zct_cg (fun w _ => by
    show (yrb C n (S ||| T) w && F w) = ((yrb C n S w && F w) || (yrb C n T w && F w))
    rw [yrb_or]
    cases yrb C n S w <;> cases yrb C n T w <;> cases F w <;> rfl)
  have c4 : yrc C n p (S &&& T) F ≤ zct (fun w => (yrb C n S w && F w) && (yrb C n T w && F w)) p := zct_mo (fun w _ hw => by
    rw [Bool.and_eq_true] at hw
    have z1 : yrb C n S w = true := yrb_mo (fun q hq => by rw [Nat.testBit_and, Bool.and_eq_true] at hq; exact hq.1) hw.1
    have z2 : yrb C n T w = true := yrb_mo (fun q hq => by rw [Nat.testBit_and, Bool.and_eq_true] at hq; exact hq.2) hw.1
    rw [z1, z2, hw.2]; rfl)
  unfold yrc at *
  omega
theorem yH_w {q0 w : Nat} (h : yH C n p mu (q0 + 1) F) (hq : mu q0 = false) : yH C n p mu q0 F := by
  intro S hS
  refine h S ⟨hS.1, fun q hq2 => ?_⟩
  obtain ⟨z1, z2⟩ := hS.2 q hq2
  refine ⟨z1, ?_⟩
  by_cases hqq : q = q0
  · subst hqq; rw [hq] at z1; cases z1
  · omega
theorem yms_s {q0 S : Nat} (h : yms n mu (q0 + 1) S) : yms n mu q0 S := ⟨h.1, fun q hq => ⟨(h.2 q hq).1, by have := (h.2 q hq).2; omega⟩⟩
theorem yH_s {q0 : Nat} (h : yH C n p mu q0 F) : yH C n p mu (q0 + 1) F := fun S hS => h S (yms_s hS)
theorem yrm_le {w j : Nat} (h : yrm F w j = true) : F j = true := by
  unfold yrm at h
  rw [Bool.and_eq_true] at h
  exact h.1
theorem yrm_ne {w : Nat} : yrm F w w = false := by
  unfold yrm
  rw [beq_self_eq_true, Bool.not_true, Bool.and_false]
theorem yrm_ot {w j : Nat} (h : j ≠ w) : yrm F w j = F j := by
  unfold yrm
  rw [show (j == w) = false by rw [beq_eq_false_iff_ne]; exact h, Bool.not_false, Bool.and_true]
/-- one put at a post, the rest enough: enough -/
theorem yH_put {q0 w : Nat} (hq : q0 < n) (hw : w < p) (hF : F w = true) (hC : C w q0 = true) (h : yH C n p mu (q0 + 1) (yrm F w)) : yH C n p mu q0 F := by
  intro S hS
  by_cases hb : S.testBit q0 = true
  · -- without the post
    have hT : yms n mu (q0 + 1) (S ^^^ 2 ^ q0) := by
      refine ⟨Nat.xor_lt_two_pow hS.1 (Nat.pow_lt_pow_right (by decide) hq), fun q h1 => ?_⟩
      rw [Nat.testBit_xor, Nat.testBit_two_pow] at h1
      by_cases hqq : q0 = q
      · subst hqq; rw [hb, decide_eq_true rfl] at h1; cases h1
      · rw [decide_eq_false hqq, Bool.xor_false] at h1
        obtain ⟨z1, z2⟩ := hS.2 q h1
        exact ⟨z1, by omega⟩
    have h1 := h _ hT
    have e1 : zct S.testBit n = zct (S ^^^ 2 ^ q0).testBit n + 1 := by
      refine zct_a1 hq (fun i _ => ?_) ?_
      · rw [Nat.testBit_xor, Nat.testBit_two_pow]
        by_cases hqq : q0 = i
        · subst hqq; rw [hb]; simp
        · rw [decide_eq_false hqq, Bool.xor_false, show (i == q0) = false by rw [beq_eq_false_iff_ne]; omega, Bool.or_false]
      · rw [Nat.testBit_xor, Nat.testBit_two_pow, hb]; simp
    have e2 : yrc C n p (S ^^^ 2 ^ q0) (yrm F w) + 1 ≤ yrc C n p S F := by
      refine zct_m1 hw (fun j _ hj => ?_) ?_ ?_
      · rw [Bool.and_eq_true] at hj ⊢
        refine ⟨yrb_mo (fun q h2 => ?_) hj.1, yrm_le hj.2⟩
        rw [Nat.testBit_xor, Nat.testBit_two_pow] at h2
        by_cases hqq : q0 = q
        · subst hqq; exact hb
        · rw [decide_eq_false hqq, Bool.xor_false] at h2; exact h2
      · rw [yrm_ne, Bool.and_false]
      · rw [hF, Bool.and_true]
        exact yrb_mo (S := 2 ^ q0) (fun q h2 => by rw [Nat.testBit_two_pow] at h2; rw [← of_decide_eq_true h2]; exact hb) (by rw [yrb_1 hq]; exact hC)
    omega
  · have hT : yms n mu (q0 + 1) S := by
      refine ⟨hS.1, fun q h1 => ?_⟩
      obtain ⟨z1, z2⟩ := hS.2 q h1
      refine ⟨z1, ?_⟩
      by_cases hqq : q = q0
      · subst hqq; exact absurd h1 hb
      · omega
    refine Nat.le_trans (h S hT) (zct_mo (fun j _ hj => ?_))
    rw [Bool.and_eq_true] at hj ⊢
    exact ⟨hj.1, yrm_le hj.2⟩
/-- enough: one can be put at a post so that the rest is enough -/
theorem yH_get {q0 : Nat} (hq : q0 < n) (hm : mu q0 = true) (h : yH C n p mu q0 F) : ∃ w, w < p ∧ F w = true ∧ C w q0 = true ∧ yH C n p mu (q0 + 1) (yrm F w) := by
  apply Classical.byContradiction
  intro hno
  have hs := yH_s h
  have key : ∀ j, j ≤ p → ∃ S, yms n mu (q0 + 1) S ∧ yrc C n p S F ≤ zct S.testBit n ∧ ∀ w, w < j → F w = true → C w q0 = true → yrb C n S w = true := by
    intro j
    induction j with
    | zero =>
      intro _
      refine ⟨0, ⟨Nat.two_pow_pos n, fun q hq => by rw [Nat.zero_testBit] at hq; cases hq⟩, ?_, fun w hw => absurd hw (Nat.not_lt_zero w)⟩
      have : yrc C n p 0 F = 0 := zct_0 (fun w _ => by rw [yrb_0]; rfl)
      omega
    | succ j ih =>
      intro hj
      obtain ⟨S, s1, s2, s3⟩ := ih (by omega)
      by_cases hc : F j = true ∧ C j q0 = true
      · have hT : ¬ yH C n p mu (q0 + 1) (yrm F j) := fun z => hno ⟨j, by omega, hc.1, hc.2, z⟩
        have hT2 : ∃ T, yms n mu (q0 + 1) T ∧ ¬ zct T.testBit n ≤ yrc C n p T (yrm F j) := by
          apply Classical.byContradiction
          intro z
          exact hT (fun T t1 => Classical.byContradiction (fun y => z ⟨T, t1, y⟩))
        obtain ⟨T, t1, t2⟩ := hT2
        have t3 := hs T t1
        -- one is among them
        have t4 : yrb C n T j = true := by
          apply Classical.byContradiction
          intro z
          apply t2
          refine Nat.le_trans t3 (zct_mo (fun w _ hw => ?_))
          rw [Bool.and_eq_true] at hw ⊢
          refine ⟨hw.1, ?_⟩
          rw [yrm_ot]
          · exact hw.2
          · intro e; subst e; exact z hw.1
        have t5 : yrc C n p T F = yrc C n p T (yrm F j) + 1 := by
          refine zct_a1 (w := j) (by omega) (fun i _ => ?_) ?_
          · by_cases hij : i = j
            · subst hij; rw [hc.1, t4]; simp
            · rw [yrm_ot hij, show (i == j) = false by rw [beq_eq_false_iff_ne]; exact hij, Bool.or_false]
          · rw [yrm_ne, Bool.and_false]
        refine ⟨S ||| T, yms_or s1 t1, ytight hs s1 t1 s2 (by omega), fun w hw f1 f2 => ?_⟩
        rw [yrb_or, Bool.or_eq_true]
        by_cases hwj : w = j
        · subst hwj; exact Or.inr t4
        · exact Or.inl (s3 w (by omega) f1 f2)
      · refine ⟨S, s1, s2, fun w hw f1 f2 => ?_⟩
        by_cases hwj : w = j
        · subst hwj; exact absurd ⟨f1, f2⟩ hc
        · exact s3 w (by omega) f1 f2
  obtain ⟨S, s1, s2, s3⟩ := key p (Nat.le_refl p)
  have hb : S.testBit q0 = false := by
    cases hb : S.testBit q0 with
    | false => rfl
    | true => have := (s1.2 q0 hb).2; omega
  have hm2 : yms n mu q0 (S ||| 2 ^ q0) := by
    refine yms_or (yms_s s1) ⟨Nat.pow_lt_pow_right (by decide) hq, fun q h1 => ?_⟩
    rw [Nat.testBit_two_pow] at h1
    rw [← of_decide_eq_true h1]
    exact ⟨hm, Nat.le_refl _⟩
  have h1 := h _ hm2
  have e1 : zct (S ||| 2 ^ q0).testBit n = zct S.testBit n + 1 := by
    refine zct_a1 hq (fun i _ => ?_) hb
    rw [Nat.testBit_or, Nat.testBit_two_pow]
    congr 1
    by_cases hqq : q0 = i
    · subst hqq; simp
    · rw [decide_eq_false hqq, eq_comm, beq_eq_false_iff_ne]; omega
  have e2 : yrc C n p (S ||| 2 ^ q0) F ≤ yrc C n p S F := by
    refine zct_mo (fun w hw h2 => ?_)
    rw [Bool.and_eq_true, yrb_or, Bool.or_eq_true, yrb_1 hq] at h2
    rw [Bool.and_eq_true]
    exact ⟨h2.1.elim id (fun z => s3 w hw h2.2 z), h2.2⟩
  omega
theorem yhall : ∀ (k : Nat) (F : Nat → Bool), k ≤ n → (yfl C n p mu k F = true ↔ yH C n p mu (n - k) F) := by
  intro k
  induction k with
  | zero =>
    intro F _
    refine ⟨fun _ S hS => ?_, fun _ => rfl⟩
    have : zct S.testBit n = 0 := zct_0 (fun i hi => by
      cases hb : S.testBit i with
      | false => rfl
      | true => have := (hS.2 i hb).2; omega)
    omega
  | succ k ih =>
    intro F hk
    have hq : n - (k + 1) + 1 = n - k := by omega
    show ((!mu (n - (k + 1)) && yfl C n p mu k F) || yex (fun w => F w && C w (n - (k + 1)) && yfl C n p mu k (yrm F w)) p) = true ↔ _
    rw [Bool.or_eq_true, Bool.and_eq_true, yex_i]
    constructor
    · rintro (⟨h1, h2⟩ | ⟨w, h1, h2⟩)
      · have := (ih F (by omega)).mp h2
        rw [← hq] at this
        exact yH_w (w := 0) this (by cases hm : mu (n - (k + 1)) with | false => rfl | true => rw [hm] at h1; cases h1)
      · rw [Bool.and_eq_true, Bool.and_eq_true] at h2
        have := (ih _ (by omega)).mp h2.2
        rw [← hq] at this
        exact yH_put (by omega) h1 h2.1.1 h2.1.2 this
    · intro h
      cases hm : mu (n - (k + 1)) with
      | false =>
        refine Or.inl ⟨rfl, (ih F (by omega)).mpr ?_⟩
        rw [← hq]
        exact yH_s h
      | true =>
        obtain ⟨w, w1, w2, w3, w4⟩ := yH_get (by omega) hm h
        refine Or.inr ⟨w, w1, ?_⟩
        rw [Bool.and_eq_true, Bool.and_eq_true]
        rw [hq] at w4
        exact ⟨⟨w2, w3⟩, (ih _ (by omega)).mpr w4⟩
end H
