-- ===== reading: with a fault all ends =====
section S
variable {B : Nat → Nat} {T t : Nat} {v : zS}
/-- a call with a fault: the class -/
theorem X_w {f : Nat} (ht : t < 6) (hf31 : f < 2 ^ 31) : ∀ (tag n : Nat) (a : Int32) (v : zS), tag ≤ 5 → tag < n → wX T t f v → ∃ v', GR n tag v 71 a = some v' ∧ wX T t f v' ∧ yNs (yFX t) v v' := by
  have e13 : ∀ {w : zS}, wX T t f w → zgI w 5 (some 71) 4 = some 13 := fun h => by rw [gI_71 h.1, h.2.2.2.1]
  intro tag
  induction tag with
  | zero =>
    intro n a v _ hn h
    obtain ⟨n, rfl⟩ : ∃ m, n = m + 1 := ⟨n - 1, by omega⟩
    obtain ⟨v', r1, r2, r3⟩ := X_refw ht hf31 h
    refine ⟨v', ?_, r2, r3⟩
    show F_Reader_readOne (GR n) v 71 a = _
    unfold F_Reader_readOne
    simp only [e13 h, zb_some, fo_71 h.1, r1]
    rfl
  | succ tag ih =>
    intro n a v htag hn h
    obtain ⟨n, rfl⟩ : ∃ m, n = m + 1 := ⟨n - 1, by omega⟩
    obtain ⟨v', r1, r2, r3⟩ := ih n a v (by omega) (by omega) h
    refine ⟨v', ?_, r2, r3⟩
    have lp : ∀ (b : (zS → Int32 → Option zS) → zS → Int32 → Option zS), (∀ r, b r v' 0 = some v') → zfix2 b zFU v' 0 = some v' := fun b hb => hb (zfix2 b 99999)
    rcases (show tag = 0 ∨ tag = 1 ∨ tag = 2 ∨ tag = 3 ∨ tag = 4 by omega) with rfl | rfl | rfl | rfl | rfl
    · show F_Reader_readTerm (GR n) v 71 a = _
      unfold F_Reader_readTerm
      rw [fo_71 h.1, zb_some, r1, zb_some]
      refine lp _ (fun r => ?_)
      rw [if_neg (show ¬ (160 : Int32) ≤ 0 by decide), e13 r2, zb_some, if_neg (show ¬ (13 : Int32) = 42 by decide)]
    · show F_Reader_readSum (GR n) v 71 a = _
      unfold F_Reader_readSum
      rw [fo_71 h.1, zb_some, r1, zb_some]
      refine lp _ (fun r => ?_)
      rw [if_neg (show ¬ (160 : Int32) ≤ 0 by decide), e13 r2, zb_some, if_neg (show ¬ (13 : Int32) = 43 by decide), zb_some, if_neg (show ¬ (13 : Int32) = 45 by decide)]
    · show F_Reader_readNot (GR n) v 71 a = _
      unfold F_Reader_readNot
      rw [e13 h, zb_some, if_neg (show ¬ (13 : Int32) = 11 by decide), fo_71 h.1, zb_some, r1, zb_some, e13 r2, zb_some, if_neg (show ¬ (13 : Int32) = 60 by decide), zb_some, if_neg (show ¬ (13 : Int32) = 61 by decide)]
    · show F_Reader_readAnd (GR n) v 71 a = _
      unfold F_Reader_readAnd
      rw [fo_71 h.1, zb_some, r1, zb_some]
      refine lp _ (fun r => ?_)
      rw [if_neg (show ¬ (160 : Int32) ≤ 0 by decide), e13 r2, zb_some, if_neg (show ¬ (13 : Int32) = 10 by decide)]
    · show F_Reader_readOr (GR n) v 71 a = _
      unfold F_Reader_readOr
      rw [fo_71 h.1, zb_some, r1, zb_some]
      refine lp _ (fun r => ?_)
      rw [if_neg (show ¬ (160 : Int32) ≤ 0 by decide), e13 r2, zb_some, if_neg (show ¬ (13 : Int32) = 9 by decide)]
/-- a call with a fault: the reference -/
theorem M_w {f c : Nat} : ∀ (tag n : Nat) (v : zS), tag ≤ 5 → tag < n → wM t f c v → GM n tag v 73 = some v := by
  intro tag
  induction tag with
  | zero =>
    intro n v _ hn h
    obtain ⟨n, rfl⟩ : ∃ m, n = m + 1 := ⟨n - 1, by omega⟩
    show F_M_one (GM n) v 73 = _
    unfold F_M_one
    rw [gI_73 h.1, zb_some, h.2.1, if_neg (show ¬ (1 : Int32) = 0 by decide)]
  | succ tag ih =>
    intro n v htag hn h
    obtain ⟨n, rfl⟩ : ∃ m, n = m + 1 := ⟨n - 1, by omega⟩
    have r1 := ih n v (by omega) (by omega) h
    have lp : ∀ (b : (zS → Option zS) → zS → Option zS), (∀ r, b r v = some v) → zfix1 b zFU v = some v := fun b hb => hb (zfix1 b 99999)
    have sg := fun a => (M_signw (a := a) h).1
    have ky := fun a => (M_signw (a := a) h).2
    have b0 : b2 false = 0 := rfl
    rcases (show tag = 0 ∨ tag = 1 ∨ tag = 2 ∨ tag = 3 ∨ tag = 4 by omega) with rfl | rfl | rfl | rfl | rfl
    · show F_M_term (GM n) v 73 = _
      unfold F_M_term
      rw [fo_73 h.1, zb_some, r1, zb_some]
      refine lp _ (fun r => ?_)
      rw [fo_73 h.1, zb_some, sg, zb_some, if_pos b0]
    · show F_M_sum (GM n) v 73 = _
      unfold F_M_sum
      rw [fo_73 h.1, zb_some, r1, zb_some]
      refine lp _ (fun r => ?_)
      rw [fo_73 h.1, zb_some, sg, zb_some, if_pos b0, zb_some, sg, zb_some, if_pos b0]
    · show F_M_not (GM n) v 73 = _
      unfold F_M_not
      rw [fo_73 h.1, zb_some, ky, zb_some, if_pos b0, zb_some, r1, zb_some, fo_73 h.1, zb_some, sg, zb_some, if_pos b0, zb_some, sg, zb_some, if_pos b0]
    · show F_M_both (GM n) v 73 = _
      unfold F_M_both
      rw [fo_73 h.1, zb_some, r1, zb_some]
      refine lp _ (fun r => ?_)
      rw [fo_73 h.1, zb_some, ky, zb_some, if_pos b0]
    · show F_M_either (GM n) v 73 = _
      unfold F_M_either
      rw [fo_73 h.1, zb_some, r1, zb_some]
      refine lp _ (fun r => ?_)
      rw [fo_73 h.1, zb_some, ky, zb_some, if_pos b0]
end S
