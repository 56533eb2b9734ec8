-- ===== reading: what holds between =====
section S
variable {B : Nat → Nat} {T t : Nat} {v : zS}
def ykx (B : Nat → Nat) (T x : Nat) : Nat := ykd B T (yst0 B T x)
def yex0 (B : Nat → Nat) (T x : Nat) : Nat := yen B T (yst0 B T x)
def yFX (t a k : Nat) : Prop := (a = 71 ∧ 3 ≤ k ∧ k ≤ 7) ∨ (a = 39 + 4 * t ∧ k = 1) ∨ a = 40 + 4 * t
def yFM (t a k : Nat) : Prop := (a = 73 ∧ 21 ≤ k ∧ k ≤ 28) ∨ (a = 85 ∧ 510 * t ≤ k ∧ k < 510 * (t + 1))
/-- the class reads, all right so far -/
def gX (B : Nat → Nat) (T t x : Nat) (L : List Int32) (v : zS) : Prop := zFr v ∧ v.2.2.2 71 2 = some (39 + 4 * t) ∧ v.2.1 71 0 = nI T ∧ yTb B T 72 v.2.1 ∧ yAX B T x v.2.1 ∧ v.2.1 71 7 = (-1) ∧ v.2.1 (39 + 4 * t) 1 = nI L.length ∧ ∀ j, j < L.length → v.2.1 (40 + 4 * t) j = ztr (L.getD j 0)
/-- the class has found a fault -/
def wX (T t f : Nat) (v : zS) : Prop := zFr v ∧ v.2.2.2 71 2 = some (39 + 4 * t) ∧ v.2.1 71 0 = nI T ∧ v.2.1 71 4 = 13 ∧ v.2.1 71 7 = nI f ∧ ∃ s, s ≤ 160 ∧ v.2.1 (39 + 4 * t) 1 = nI s
def gM (B : Nat → Nat) (T t x : Nat) (L : List Int32) (op : Nat) (v : zS) : Prop := zFr v ∧ v.2.1 73 15 = nI T ∧ yTb B T 84 v.2.1 ∧ zLt v.2.1 ∧ yAM B T x v.2.1 ∧ v.2.1 73 26 = nI op ∧ v.2.1 73 27 = 0 ∧ v.2.1 73 21 = nI (510 * t + L.length) ∧ ∀ j, j < L.length → v.2.1 85 (510 * t + j) = L.getD j 0
def wM (t f c : Nat) (v : zS) : Prop := zFr v ∧ v.2.1 73 27 = 1 ∧ v.2.1 73 28 = nI f ∧ v.2.1 73 21 = nI (510 * t + c)
theorem gR_71_2 (hf : zFr v) : zgR v 5 (some 71) 2 = some (v.2.2.2 71 2) := by
  unfold zgR
  rw [fo_71 hf]
  rfl
theorem yen_ok {y : Nat} (h : y < T) : y + 1 ≤ yen B T y ∧ yen B T y ≤ T := by
  unfold yen
  rw [if_neg (by omega)]
  have key : ∀ (P : Nat → Bool), P y = true → y + 1 ≤ yR P T y ∧ yR P T y ≤ T := by
    intro P hP
    obtain ⟨a1, a2, a3, a4⟩ := yR_ok (P := P) (T := T) (x := y) (by omega)
    refine ⟨?_, a2⟩
    apply Classical.byContradiction
    intro z
    have e : yR P T y = y := by omega
    rw [e] at a4
    rcases a4 with a | a
    · omega
    · rw [hP] at a; cases a
  split
  · rename_i z; exact key (fun i => ylt (B i)) z
  · split
    · rename_i z; exact key (fun i => ydg (B i)) z
    · omega
theorem yst_le {x : Nat} (h : x ≤ T) : x ≤ yst0 B T x ∧ yst0 B T x ≤ T := ⟨(yR_ok h).1, (yR_ok h).2.1⟩
theorem ykx_lt {x : Nat} (h : x ≤ T) (hk : ykx B T x ≠ 13) : yst0 B T x < T := by
  have := (yst_le (B := B) h).2
  apply Classical.byContradiction
  intro z
  apply hk
  unfold ykx ykd
  rw [if_pos (by omega)]
theorem ynx_ok {x : Nat} (h : x ≤ T) (hk : ykx B T x ≠ 13) : yex0 B T x ≤ T ∧ yst0 B T x + 1 ≤ yst0 B T (yex0 B T x) := by
  have h1 := ykx_lt h hk
  have h2 := yen_ok (B := B) h1
  have h3 := (yst_le (B := B) (x := yex0 B T x) h2.2).1
  unfold yex0 at *
  omega
theorem ykx_256 {x : Nat} (hB : ∀ j, B j < 256) : ykx B T x < 256 := by
  unfold ykx ykd ywd
  split
  · decide
  · split
    · rcases yfi_ex (P := ymt B (yst0 B T x) (yen B T (yst0 B T x))) (N := 12) with h | ⟨i, h1, h2, h3, h4⟩
      · rw [h]; decide
      · rw [h4]; show i < 256; omega
    · split
      · split <;> decide
      · split
        · exact hB _
        · decide
theorem yAX_c {x : Nat} {e e' : Nat → Nat → Int32} (h : yAX B T x e) (he : ∀ k, 3 ≤ k → k ≤ 6 → e' 71 k = e 71 k) : yAX B T x e' := ⟨(he 3 (by decide) (by decide)).trans h.1, (he 4 (by decide) (by decide)).trans h.2.1, (he 5 (by decide) (by decide)).trans h.2.2.1, fun z => (he 6 (by decide) (by decide)).trans (h.2.2.2 z)⟩
theorem yAM_c {x : Nat} {e e' : Nat → Nat → Int32} (h : yAM B T x e) (he : ∀ k, 22 ≤ k → k ≤ 25 → e' 73 k = e 73 k) : yAM B T x e' := ⟨(he 23 (by decide) (by decide)).trans h.1, (he 22 (by decide) (by decide)).trans h.2.1, (he 24 (by decide) (by decide)).trans h.2.2.1, fun z y => (he 25 (by decide) (by decide)).trans (h.2.2.2 z y)⟩
theorem X_go {x : Nat} {L : List Int32} (ht : t < 6) (hx : x ≤ T) (hk : ykx B T x ≠ 13) (h : gX B T t x L v) : ∃ v', F_Reader_advance v 71 = some v' ∧ gX B T t (yex0 B T x) L v' ∧ yNs (yFX t) v v' := by
  obtain ⟨h1, h2, h3, h4, h5, h6, h7, h8⟩ := h
  obtain ⟨v', a1, a2, a3⟩ := X_adv h1 h3 h4 h5.1 (ynx_ok hx hk).1
  refine ⟨v', a1, ⟨a2.1, ?_, ?_, ?_, a3, ?_, ?_, fun j hj => ?_⟩, yNs_mo a2 (fun a k z => Or.inl ⟨z.1, z.2.1, by have := z.2.2; omega⟩)⟩
  · rw [a2.2.2.1]; exact h2
  · exact (a2.2.2.2 _ _ (by unfold yB36; omega)).trans h3
  · exact yTb_c h4 (fun j => a2.2.2.2 _ _ (by unfold yB36; omega))
  · exact (a2.2.2.2 _ _ (by unfold yB36; omega)).trans h6
  · exact (a2.2.2.2 _ _ (by unfold yB36; omega)).trans h7
  · exact (a2.2.2.2 _ _ (by unfold yB36; omega)).trans (h8 j hj)
theorem X_ref {x : Nat} {L : List Int32} (ht : t < 6) (hL : L.length ≤ 160) (h : gX B T t x L v) : ∃ v', F_Reader_refuse v 71 = some v' ∧ wX T t (yst0 B T x) v' ∧ yNs (yFX t) v v' := by
  obtain ⟨h1, h2, h3, h4, h5, h6, h7, h8⟩ := h
  have f1 : zFr (zuI v 71 7 (nI (yst0 B T x))) := fr_uI h1
  have f2 : zFr (zuI (zuI v 71 7 (nI (yst0 B T x))) 71 4 13) := fr_uI f1
  have g0 : (zuI (zuI v 71 7 (nI (yst0 B T x))) 71 4 13).2.1 71 0 = nI T := by rw [uI_at, if_neg (by omega), uI_at, if_neg (by omega)]; exact h3
  refine ⟨zuI (zuI (zuI v 71 7 (nI (yst0 B T x))) 71 4 13) 71 3 (nI T), ?_, ⟨fr_uI f2, h2, ?_, ?_, ?_, L.length, hL, ?_⟩, yNs_w (yNs_w (yNs_w (yNs_rf h1) (Or.inl ⟨rfl, by decide, by decide⟩)) (Or.inl ⟨rfl, by decide, by decide⟩)) (Or.inl ⟨rfl, by decide, by decide⟩)⟩
  · unfold F_Reader_refuse
    rw [gI_71 h1, zb_some, h6, zjn1_eq, if_pos rfl, gI_71 h1, zb_some, h5.2.2.1, pI_71 h1, zb_some]
    try dsimp only
    rw [pI_71 f1, zb_some, gI_71 f2, zb_some, g0, pI_71 f2, zb_some]
  · rw [uI_at, if_neg (by omega)]; exact g0
  · rw [uI_at, if_neg (by omega), uI_at, if_pos ⟨rfl, rfl⟩]
  · rw [uI_at, if_neg (by omega), uI_at, if_neg (by omega), uI_at, if_pos ⟨rfl, rfl⟩]
  · rw [uI_off (by omega), uI_off (by omega), uI_off (by omega)]; exact h7
theorem X_refw {f : Nat} (ht : t < 6) (hf31 : f < 2 ^ 31) (h : wX T t f v) : ∃ v', F_Reader_refuse v 71 = some v' ∧ wX T t f v' ∧ yNs (yFX t) v v' := by
  obtain ⟨h1, h2, h3, h4, h5, s, h6, h7⟩ := h
  have f2 : zFr (zuI v 71 4 13) := fr_uI h1
  have g0 : (zuI v 71 4 13).2.1 71 0 = nI T := by rw [uI_at, if_neg (by omega)]; exact h3
  refine ⟨zuI (zuI v 71 4 13) 71 3 (nI T), ?_, ⟨fr_uI f2, h2, ?_, ?_, ?_, s, h6, ?_⟩, yNs_w (yNs_w (yNs_rf h1) (Or.inl ⟨rfl, by decide, by decide⟩)) (Or.inl ⟨rfl, by decide, by decide⟩)⟩
  · unfold F_Reader_refuse
    rw [gI_71 h1, zb_some, h5, zjn1_eq, if_neg (nI_n1 hf31)]
    try dsimp only
    rw [pI_71 h1, zb_some, gI_71 f2, zb_some, g0, pI_71 f2, zb_some]
  · rw [uI_at, if_neg (by omega)]; exact g0
  · rw [uI_at, if_neg (by omega), uI_at, if_pos ⟨rfl, rfl⟩]
  · rw [uI_at, if_neg (by omega), uI_at, if_neg (by omega)]; exact h5
  · rw [uI_off (by omega), uI_off (by omega)]; exact h7
theorem zln_T (hf : zFr v) (ht : t < 6) : zln v .int (some (40 + 4 * t)) = some (nI 160) := by
  unfold zln
  rw [hf.1]
  have : ∀ t : Fin 6, zL0[40 + 4 * t.1]? = some (.inl (.int, 160)) := by decide +kernel
  dsimp only
  rw [show zL0[40 + 4 * t]? = some (.inl (.int, 160)) from this ⟨t, ht⟩]
  rfl
theorem X_add {x : Nat} {L : List Int32} {a : Int32} (ht : t < 6) (hL : L.length < 160) (h : gX B T t x L v) : ∃ v', F_Text_add v (39 + 4 * t) (ztr a) = some v' ∧ gX B T t x (L ++ [a]) v' ∧ yNs (yFX t) v v' := by
  obtain ⟨h1, h2, h3, h4, h5, h6, h7, h8⟩ := h
  have f1 : zFr (zuI v (40 + 4 * t) L.length (ztr a)) := fr_uI h1
  have g7 : (zuI v (40 + 4 * t) L.length (ztr a)).2.1 (39 + 4 * t) 1 = nI L.length := by rw [uI_off (by omega)]; exact h7
  refine ⟨zuI (zuI v (40 + 4 * t) L.length (ztr a)) (39 + 4 * t) 1 (nI (L.length + 1)), ?_, ⟨fr_uI f1, h2, ?_, ?_, ?_, ?_, ?_, fun j hj => ?_⟩, yNs_w (yNs_w (yNs_rf h1) (Or.inr (Or.inr rfl))) (Or.inr (Or.inl ⟨rfl, rfl⟩))⟩
  · unfold F_Text_add
    rw [gI_T h1 ht, zb_some, h7, gR_T_0 h1 ht, zb_some, zln_T h1 ht, zb_some, if_neg (show ¬ nI 160 ≤ nI L.length by rw [nI_leI (by omega) (by omega)]; omega), zb_some, zb_some, sI_T_0 h1 ht hL, zb_some, gI_T f1 ht, zb_some, g7, show nI L.length + 1 = nI (L.length + 1) from nI_add _ 1, pI_T f1 ht, zb_some]
  · rw [uI_off (by omega), uI_off (by omega)]; exact h3
  · exact yTb_c h4 (fun j => by rw [uI_off (by omega), uI_off (by omega)])
  · exact yAX_c h5 (fun k _ _ => by rw [uI_off (by omega), uI_off (by omega)])
  · rw [uI_off (by omega), uI_off (by omega)]; exact h6
  · rw [uI_at, if_pos ⟨rfl, rfl⟩, List.length_append]; rfl
  · rw [uI_off (by omega), uI_at]
    rw [List.length_append] at hj
    have hj' : j < L.length + 1 := hj
    by_cases z : j = L.length
    · subst z
      rw [if_pos ⟨rfl, rfl⟩]
      congr 1
      rw [List.getD_eq_getElem?_getD, List.getElem?_append_right (Nat.le_refl _), Nat.sub_self]
      rfl
    · rw [if_neg (fun y => z y.2), h8 j (by omega)]
      congr 1
      rw [List.getD_eq_getElem?_getD, List.getD_eq_getElem?_getD, List.getElem?_append_left (by omega)]
theorem X_addw {f : Nat} {a : Int32} (ht : t < 6) (h : wX T t f v) : ∃ v', F_Text_add v (39 + 4 * t) a = some v' ∧ wX T t f v' ∧ yNs (yFX t) v v' := by
  obtain ⟨h1, h2, h3, h4, h5, s, h6, h7⟩ := h
  unfold F_Text_add
  rw [gI_T h1 ht, zb_some, h7, gR_T_0 h1 ht, zb_some, zln_T h1 ht, zb_some]
  by_cases hs : s = 160
  · rw [if_pos (show nI 160 ≤ nI s by rw [hs]; exact Int32.le_refl _)]
    exact ⟨v, rfl, ⟨h1, h2, h3, h4, h5, s, h6, h7⟩, yNs_rf h1⟩
  · have f1 : zFr (zuI v (40 + 4 * t) s a) := fr_uI h1
    have g7 : (zuI v (40 + 4 * t) s a).2.1 (39 + 4 * t) 1 = nI s := by rw [uI_off (by omega)]; exact h7
    rw [if_neg (show ¬ nI 160 ≤ nI s by rw [nI_leI (by omega) (by omega)]; omega), zb_some, zb_some, sI_T_0 h1 ht (by omega), zb_some, gI_T f1 ht, zb_some, g7, show nI s + 1 = nI (s + 1) from nI_add _ 1, pI_T f1 ht, zb_some]
    refine ⟨_, rfl, ⟨fr_uI f1, h2, ?_, ?_, ?_, s + 1, by omega, ?_⟩, yNs_w (yNs_w (yNs_rf h1) (Or.inr (Or.inr rfl))) (Or.inr (Or.inl ⟨rfl, rfl⟩))⟩
    · rw [uI_off (by omega), uI_off (by omega)]; exact h3
    · rw [uI_off (by omega), uI_off (by omega)]; exact h4
    · rw [uI_off (by omega), uI_off (by omega)]; exact h5
    · rw [uI_at, if_pos ⟨rfl, rfl⟩]
theorem M_go {x : Nat} {L : List Int32} {op : Nat} (hx : x ≤ T) (hk : ykx B T x ≠ 13) (h : gM B T t x L op v) : ∃ v', F_M_next v 73 = some v' ∧ gM B T t (yex0 B T x) L op v' ∧ yNs (yFM t) v v' := by
  obtain ⟨h1, h2, h3, h4, h5, h6, h7, h8, h9⟩ := h
  obtain ⟨v', a1, a2, a3⟩ := M_next h1 h2 h3 h4 h5.1 (ynx_ok hx hk).1
  refine ⟨v', a1, ⟨a2.1, ?_, ?_, ?_, a3, ?_, ?_, ?_, fun j hj => ?_⟩, yNs_mo a2 (fun a k z => Or.inl ⟨z.1, by have := z.2.1; omega, by have := z.2.2; omega⟩)⟩
  · exact (a2.2.2.2 _ _ (by unfold yB25; omega)).trans h2
  · exact yTb_c h3 (fun j => a2.2.2.2 _ _ (by unfold yB25; omega))
  · exact zLt_c h4 (fun a k z => a2.2.2.2 _ _ (by unfold yB25; omega))
  · exact (a2.2.2.2 _ _ (by unfold yB25; omega)).trans h6
  · exact (a2.2.2.2 _ _ (by unfold yB25; omega)).trans h7
  · exact (a2.2.2.2 _ _ (by unfold yB25; omega)).trans h8
  · exact (a2.2.2.2 _ _ (by unfold yB25; omega)).trans (h9 j hj)
theorem M_wro {x : Nat} {L : List Int32} {op : Nat} (h : gM B T t x L op v) : ∃ v', F_M_wrong v 73 = some v' ∧ wM t (yst0 B T x) L.length v' ∧ yNs (yFM t) v v' := by
  obtain ⟨h1, h2, h3, h4, h5, h6, h7, h8, h9⟩ := h
  have f1 : zFr (zuI v 73 27 1) := fr_uI h1
  have g22 : (zuI v 73 27 1).2.1 73 22 = nI (yst0 B T x) := by rw [uI_at, if_neg (by omega)]; exact h5.2.1
  refine ⟨zuI (zuI v 73 27 1) 73 28 (nI (yst0 B T x)), ?_, ⟨fr_uI f1, ?_, ?_, ?_⟩, yNs_w (yNs_w (yNs_rf h1) (Or.inl ⟨rfl, by decide, by decide⟩)) (Or.inl ⟨rfl, by decide, by decide⟩)⟩
  · unfold F_M_wrong
    rw [gI_73 h1, zb_some, h7, if_pos rfl, pZ_73 h1 (Or.inr rfl), zb_some, gI_73 f1, zb_some, g22, pI_73 f1, zb_some]
  · rw [uI_at, if_neg (by omega), uI_at, if_pos ⟨rfl, rfl⟩]
  · rw [uI_at, if_pos ⟨rfl, rfl⟩]
  · rw [uI_at, if_neg (by omega), uI_at, if_neg (by omega)]; exact h8
theorem M_wrow {f c : Nat} (h : wM t f c v) : F_M_wrong v 73 = some v := by
  unfold F_M_wrong
  rw [gI_73 h.1, zb_some, h.2.1, if_neg (show ¬ (1 : Int32) = 0 by decide)]
theorem M_lay {x : Nat} {L : List Int32} {op : Nat} {a : Int32} (ht : t < 6) (hL : L.length < 500) (h : gM B T t x L op v) : ∃ v', F_M_lay v 73 a = some v' ∧ gM B T t x (L ++ [a]) op v' ∧ yNs (yFM t) v v' := by
  obtain ⟨h1, h2, h3, h4, h5, h6, h7, h8, h9⟩ := h
  have f1 : zFr (zuI v 85 (510 * t + L.length) a) := fr_uI h1
  have g8 : (zuI v 85 (510 * t + L.length) a).2.1 73 21 = nI (510 * t + L.length) := by rw [uI_off (by omega)]; exact h8
  refine ⟨zuI (zuI v 85 (510 * t + L.length) a) 73 21 (nI (510 * t + L.length + 1)), ?_, ⟨fr_uI f1, ?_, ?_, ?_, ?_, ?_, ?_, ?_, fun j hj => ?_⟩, yNs_w (yNs_w (yNs_rf h1) (Or.inr ⟨rfl, by omega, by omega⟩)) (Or.inl ⟨rfl, by decide, by decide⟩)⟩
  · unfold F_M_lay
    rw [gR_73_18 h1, zb_some, gI_73 h1, zb_some, h8, sI_85 h1 (by omega), zb_some, gI_73 f1, zb_some, g8, show nI (510 * t + L.length) + 1 = nI (510 * t + L.length + 1) from nI_add _ 1, pI_73 f1, zb_some]
  · rw [uI_at, if_neg (by omega), uI_off (by omega)]; exact h2
  · exact yTb_c h3 (fun j => by rw [uI_off (by omega), uI_off (by omega)])
  · exact zLt_c h4 (fun a k z => by rw [uI_off (by omega), uI_off (by omega)])
  · exact yAM_c h5 (fun k _ _ => by rw [uI_at, if_neg (by omega), uI_off (by omega)])
  · rw [uI_at, if_neg (by omega), uI_off (by omega)]; exact h6
  · rw [uI_at, if_neg (by omega), uI_off (by omega)]; exact h7
  · rw [uI_at, if_pos ⟨rfl, rfl⟩, List.length_append]; rfl
  · rw [uI_off (by omega), uI_at]
    rw [List.length_append] at hj
    have hj' : j < L.length + 1 := hj
    by_cases z : j = L.length
    · subst z
      rw [if_pos ⟨rfl, rfl⟩, List.getD_eq_getElem?_getD, List.getElem?_append_right (Nat.le_refl _), Nat.sub_self]
      rfl
    · rw [if_neg (fun y => z (by omega)), h9 j (by omega), List.getD_eq_getElem?_getD, List.getD_eq_getElem?_getD, List.getElem?_append_left (by omega)]
theorem M_layw {f c : Nat} {a : Int32} (ht : t < 6) (hc : c < 500) (h : wM t f c v) : ∃ v', F_M_lay v 73 a = some v' ∧ wM t f (c + 1) v' ∧ yNs (yFM t) v v' := by
  obtain ⟨h1, h2, h3, h4⟩ := h
  have f1 : zFr (zuI v 85 (510 * t + c) a) := fr_uI h1
  have g8 : (zuI v 85 (510 * t + c) a).2.1 73 21 = nI (510 * t + c) := by rw [uI_off (by omega)]; exact h4
  refine ⟨zuI (zuI v 85 (510 * t + c) a) 73 21 (nI (510 * t + (c + 1))), ?_, ⟨fr_uI f1, ?_, ?_, ?_⟩, yNs_w (yNs_w (yNs_rf h1) (Or.inr ⟨rfl, by omega, by omega⟩)) (Or.inl ⟨rfl, by decide, by decide⟩)⟩
  · unfold F_M_lay
    rw [gR_73_18 h1, zb_some, gI_73 h1, zb_some, h4, sI_85 h1 (by omega), zb_some, gI_73 f1, zb_some, g8, show nI (510 * t + c) + 1 = nI (510 * t + (c + 1)) from nI_add _ 1, pI_73 f1, zb_some]
  · rw [uI_at, if_neg (by omega), uI_off (by omega)]; exact h2
  · rw [uI_at, if_neg (by omega), uI_off (by omega)]; exact h3
  · rw [uI_at, if_pos ⟨rfl, rfl⟩]
theorem M_sign {x b : Nat} {L : List Int32} {op : Nat} (hB : ∀ j, B j < 256) (h : gM B T t x L op v) (hb : 15 ≤ b) (hb2 : b < 256) : F_M_isSign v 73 (nI b) = some (b2 (decide (ykx B T x = b))) := by
  obtain ⟨h1, h2, h3, h4, h5, h6, h7, h8, h9⟩ := h
  have hk := ykx_256 (B := B) (T := T) (x := x) hB
  have h24 : v.2.1 73 24 = nI (yMt (ykx B T x)) := h5.2.2.1
  have h25 : ykx B T x ≠ 13 → ykx B T x ≠ 14 → v.2.1 73 25 = nI (yMw (ykx B T x) (yvl B (yst0 B T x) (yen B T (yst0 B T x) - yst0 B T x))) := h5.2.2.2
  unfold F_M_isSign
  rw [gI_73 h1, zb_some, h7, if_pos rfl, gI_73 h1, zb_some, h24]
  by_cases z : 15 ≤ ykx B T x
  · have e1 : yMt (ykx B T x) = 4 := by unfold yMt; rw [if_neg (by omega), if_neg (by omega), if_neg (by omega), if_neg (by omega), if_neg (by omega)]
    have e2 : ∀ w, yMw (ykx B T x) w = ykx B T x := fun w => by unfold yMw; rw [if_neg (by omega), if_neg (by omega), if_neg (by omega)]
    rw [e1, if_pos (show nI 4 = 4 from rfl), gI_73 h1, zb_some, h25 (by omega) (by omega), e2]
    by_cases y : ykx B T x = b
    · rw [if_pos (show nI (ykx B T x) = nI b by rw [y]), decide_eq_true y]; rfl
    · rw [if_neg (show ¬ nI (ykx B T x) = nI b from fun w => y (nI_inj (by omega) (by omega) w)), decide_eq_false y]; rfl
  · have e1 : ¬ nI (yMt (ykx B T x)) = 4 := by
      unfold yMt
      repeat (first | decide | split | omega)
    rw [if_neg e1, decide_eq_false (by omega)]; rfl
theorem M_signw {f c : Nat} {a : Int32} (h : wM t f c v) : F_M_isSign v 73 a = some (b2 false) ∧ F_M_isKey v 73 a = some (b2 false) := by
  unfold F_M_isSign F_M_isKey
  rw [gI_73 h.1, zb_some, h.2.1, if_neg (show ¬ (1 : Int32) = 0 by decide)]
  exact ⟨rfl, rfl⟩
theorem M_key {x k : Nat} {L : List Int32} {op : Nat} (hB : ∀ j, B j < 256) (h : gM B T t x L op v) (hk6 : k < 6) : F_M_isKey v 73 (nI k) = some (b2 (decide (ykx B T x = 6 + k))) := by
  obtain ⟨h1, h2, h3, h4, h5, h6, h7, h8, h9⟩ := h
  have hk := ykx_256 (B := B) (T := T) (x := x) hB
  have h24 : v.2.1 73 24 = nI (yMt (ykx B T x)) := h5.2.2.1
  have h25 : ykx B T x ≠ 13 → ykx B T x ≠ 14 → v.2.1 73 25 = nI (yMw (ykx B T x) (yvl B (yst0 B T x) (yen B T (yst0 B T x) - yst0 B T x))) := h5.2.2.2
  unfold F_M_isKey
  rw [gI_73 h1, zb_some, h7, if_pos rfl, gI_73 h1, zb_some, h24]
  by_cases z : 6 ≤ ykx B T x ∧ ykx B T x < 12
  · have e1 : yMt (ykx B T x) = 3 := by unfold yMt; rw [if_neg (by omega), if_pos (by omega)]
    have e2 : ∀ w, yMw (ykx B T x) w = ykx B T x - 6 := fun w => by unfold yMw; rw [if_neg (by omega), if_pos (by omega)]
    rw [e1, if_pos (show nI 3 = 3 from rfl), gI_73 h1, zb_some, h25 (by omega) (by omega), e2]
    by_cases y : ykx B T x = 6 + k
    · rw [if_pos (show nI (ykx B T x - 6) = nI k by rw [y]; congr 1; omega), decide_eq_true y]; rfl
    · rw [if_neg (show ¬ nI (ykx B T x - 6) = nI k from fun w => y (by have := nI_inj (by omega) (by omega) w; omega)), decide_eq_false y]; rfl
  · have e1 : ¬ nI (yMt (ykx B T x)) = 3 := by
      unfold yMt
      repeat (first | decide | split | omega)
    rw [if_neg e1, decide_eq_false (by omega)]; rfl
end S
