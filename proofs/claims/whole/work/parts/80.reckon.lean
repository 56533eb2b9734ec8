-- ===== the class's plan: reckoned, laid down =====
section S
variable {C : Nat → Nat → Bool} {g : Nat → Nat → Nat} {mu : Nat → Bool} {n p T m : Nat} {u : zS}
def yB11 (a _k : Nat) : Prop := a = 11
theorem yPm_11 {u' : zS} (h : yNs yB11 u u') (hm : yPm C g mu n p T u.2.1) : yPm C g mu n p T u'.2.1 := yPm_c hm (h.2.2.2 _ _ (by unfold yB11; omega)) (h.2.2.2 _ _ (by unfold yB11; omega)) (fun k => h.2.2.2 _ _ (by unfold yB11; omega))
theorem yI_dec {B : Int} (h : 0 ≤ B) (h2 : B < 2 ^ 31) : yI B + (-1) = yI (B - 1) := by
  rw [yI_p h]
  by_cases hB : B = 0
  · subst hB; rfl
  · rw [yI_p (by omega), nI_m1 (by omega)]
    congr 1
    omega
theorem X_reckon (hg : ∀ w q, g w q ≤ 9801) (hf : zFr u) (hm : yPm C g mu n p T u.2.1) (hm7 : m ≤ 7) : ∃ u', F_Plan_reckon u 9 (nI T) (nI m) = some u' ∧ yNs yB11 u u' ∧ ∀ q, q ≤ n → yBq C g mu n p T m q u'.2.1 := by
  have hm' := hm
  obtain ⟨hn6, hp7, hT, h90, -⟩ := hm'
  have hT7 : T < 128 := Nat.lt_of_lt_of_le hT (p2_le hp7)
  unfold F_Plan_reckon
  rw [gI_9 hf, zb_some, h90]
  refine fix2_p (n + 1) (fun i v x => yNs yB11 u v ∧ x = yI ((n : Int) - i) ∧ ∀ q, q ≤ n → n < q + i → yBq C g mu n p T m q v.2.1) (fun o => ∃ u', o = some u' ∧ yNs yB11 u u' ∧ ∀ q, q ≤ n → yBq C g mu n p T m q u'.2.1) ?_ ?_ (zFU_lt (by omega)) ⟨yNs_rf hf, by rw [show ((n : Int) - (0 : Nat)) = (n : Int) by omega, yI_n], fun q h1 h2 => absurd h2 (by omega)⟩
  · rintro r i v x hi ⟨hv, rfl, hq⟩
    rw [yI_p (show 0 ≤ (n : Int) - i by omega)]
    have e0 : ((n : Int) - i).toNat = n - i := by omega
    rw [e0, if_neg (show ¬ nI (n - i) < 0 from nI_lt0 (by omega))]
    left
    refine fix2_p (T + 1) (fun f w x => yNs yB11 u w ∧ x = nI f ∧ (∀ q, q ≤ n → n < q + i → yBq C g mu n p T m q w.2.1) ∧ ∀ k, k < f → yfr T m (n - i) k → w.2.1 11 (128 * (n - i) + k) = yI (yD C g n p mu (n - (n - i)) k.testBit)) (fun o => ∃ y0 y1, (yNs yB11 u y0 ∧ y1 = yI ((n : Int) - (i + 1 : Nat)) ∧ ∀ q, q ≤ n → n < q + (i + 1) → yBq C g mu n p T m q y0.2.1) ∧ o = r y0 y1) ?_ ?_ (zFU_lt (by omega)) ⟨hv, rfl, hq, fun k hk => absurd hk (Nat.not_lt_zero k)⟩
    · rintro r2 f w x hfT ⟨hw, rfl, hq2, hk⟩
      have hwm := yPm_11 hw hm
      have hf7 : f < 128 := by omega
      rw [if_neg (show ¬ nI T < nI f by rw [nI_ltI (by omega) (by omega)]; omega), if_neg (show ¬ (128 : Int32) ≤ nI f by rw [show (128 : Int32) = nI 128 from rfl, nI_leI (by omega) (by omega)]; omega), nI_mi hf7 (by omega), show nI f + 1 = nI (f + 1) from nI_add f 1]
      left
      have skip : ¬ yfr T m (n - i) f → (yNs yB11 u w ∧ nI (f + 1) = nI (f + 1) ∧ (∀ q, q ≤ n → n < q + i → yBq C g mu n p T m q w.2.1) ∧ ∀ k, k < f + 1 → yfr T m (n - i) k → w.2.1 11 (128 * (n - i) + k) = yI (yD C g n p mu (n - (n - i)) k.testBit)) := by
        intro hno
        refine ⟨hw, rfl, hq2, fun k hk1 hk2 => ?_⟩
        by_cases hkf : k = f
        · subst hkf; exact absurd hk2 hno
        · exact hk k (by omega) hk2
      by_cases hs : zmi f T = 0
      · rw [if_pos (show nI (zmi f T) = 0 by rw [hs]; rfl), nI_xor, X_bits (xor_128 hT7 hf7), zb_some, nI_add]
        have hpl := ypc_le (T ^^^ f)
        by_cases hc : ypc (T ^^^ f) ≤ m + (n - i)
        · have hfr : yfr T m (n - i) f := ⟨hf7, hs, hc⟩
          rw [if_neg (show ¬ nI (m + (n - i)) < nI (ypc (T ^^^ f)) by rw [nI_ltI (by omega) (by omega)]; omega), gR_9_3 hw.1, zb_some, gI_9 hw.1, zb_some, hwm.2.2.2.1]
          have upd : ∀ val, val = yI (yD C g n p mu (n - (n - i)) f.testBit) → (yNs yB11 u (zuI w 11 (128 * (n - i) + f) val) ∧ nI (f + 1) = nI (f + 1) ∧ (∀ q, q ≤ n → n < q + i → yBq C g mu n p T m q (zuI w 11 (128 * (n - i) + f) val).2.1) ∧ ∀ k, k < f + 1 → yfr T m (n - i) k → (zuI w 11 (128 * (n - i) + f) val).2.1 11 (128 * (n - i) + k) = yI (yD C g n p mu (n - (n - i)) k.testBit)) := by
            intro val hval
            refine ⟨yNs_w hw rfl, rfl, fun q hq3 hq4 k hk2 => ?_, fun k hk1 hk2 => ?_⟩
            · have := hk2.1
              rw [uI_at, if_neg (by omega)]
              exact hq2 q hq3 hq4 k hk2
            · rw [uI_at]
              by_cases hkf : k = f
              · subst hkf; rw [if_pos ⟨rfl, rfl⟩, hval]
              · rw [if_neg (by omega)]
                exact hk k (by omega) hk2
          by_cases hi0 : i = 0
          · subst hi0
            refine ⟨zuI w 11 (128 * (n - 0) + f) 0, nI (f + 1), upd 0 ?_, ?_⟩
            · rw [show n - (n - 0) = 0 by omega]; rfl
            · rw [if_pos (show nI (n - 0) = nI n from rfl), show (128 : Int32) = nI 128 from rfl, pk_mul, nI_add, sI_11 hw.1 (by omega), zb_some, show (n - 0) * 128 + f = 128 * (n - 0) + f by omega]
          · have hmost := X_most (q := n - i) hg hw.1 hwm (by omega) (hq2 (n - i + 1) (by omega) (by omega)) hfr
            refine ⟨zuI w 11 (128 * (n - i) + f) (yI (yD C g n p mu (n - (n - i)) f.testBit)), nI (f + 1), upd _ rfl, ?_⟩
            rw [if_neg (show ¬ nI (n - i) = nI n from fun z => by have := nI_inj (by omega) (by omega) z; omega), fo_9 hw.1, zb_some, hmost, zb_some, show (128 : Int32) = nI 128 from rfl, pk_mul, nI_add, sI_11 hw.1 (by omega), zb_some, show (n - i) * 128 + f = 128 * (n - i) + f by omega]
        · rw [if_pos (show nI (m + (n - i)) < nI (ypc (T ^^^ f)) by rw [nI_ltI (by omega) (by omega)]; omega)]
          exact ⟨w, nI (f + 1), skip (fun z => hc z.2.2), rfl⟩
      · rw [if_neg (show ¬ nI (zmi f T) = 0 from fun z => hs (nI_inj (by have := zmi_lt (b := T) hf7; omega) (by decide) z))]
        exact ⟨w, nI (f + 1), skip (fun z => hs z.2.1), rfl⟩
    · rintro r2 w x ⟨hw, rfl, hq2, hk⟩
      refine ⟨w, yI ((n : Int) - (i + 1 : Nat)), ⟨hw, rfl, fun q h1 h2 => ?_⟩, ?_⟩
      · by_cases hqi : q = n - i
        · subst hqi
          intro k hk2
          have := zmi_le hk2.1 hk2.2.1
          exact hk k (by omega) hk2
        · exact hq2 q h1 (by omega)
      · rw [if_pos (show nI T < nI (T + 1) from nI_lt (by omega) (by omega))]
        have := yI_dec (B := (n : Int) - i) (by omega) (by omega)
        rw [yI_p (show 0 ≤ (n : Int) - i by omega), e0] at this
        rw [this]
        congr 2
        omega
  · rintro r v x ⟨hv, rfl, hq⟩
    refine ⟨v, ?_, hv, fun q hq2 => hq q hq2 (by omega)⟩
    rw [yI_m (by omega), if_pos (by decide)]
theorem X_firstAt {q f : Nat} (hg : ∀ w q, g w q ≤ 9801) (hf : zFr u) (hm : yPm C g mu n p T u.2.1) (hq : q < n) (hb : yBq C g mu n p T m (q + 1) u.2.1) (hb0 : yBq C g mu n p T m q u.2.1) (h : yfr T m q f) (hD : 0 ≤ yD C g n p mu (n - q) f.testBit) : F_Plan_firstAt u 9 (nI q) (nI f) = some (nI (yF C g n p mu (n - (q + 1)) f.testBit) - 1) := by
  have hm' := hm
  obtain ⟨hn6, hp7, hT, -⟩ := hm'
  have hfl := yfr_lt hp7 hT h
  have h128 := h.1
  have hDk := yD_ge (C := C) (g := g) (n := n) (p := p) (mu := mu) (n - (q + 1))
  have hDl := yD_le (C := C) (n := n) (p := p) (mu := mu) hg (n - (q + 1))
  have e1 : yD C g n p mu (n - q) f.testBit = yDj f.testBit C g mu q (yD C g n p mu (n - (q + 1))) p := by
    rw [show n - q = (n - (q + 1)) + 1 by omega]
    show yDj f.testBit C g mu (n - ((n - (q + 1)) + 1)) _ p = _
    rw [show n - ((n - (q + 1)) + 1) = q by omega]
  have e2 : yF C g n p mu (n - (q + 1)) f.testBit = yFj f.testBit C g mu q (yD C g n p mu (n - (q + 1))) p := by
    unfold yF
    rw [show n - ((n - (q + 1)) + 1) = q by omega]
  have hge := fun j => yDj_ge (F := f.testBit) (C := C) (g := g) (mu := mu) (q := q) hDk j
  have hle := fun j => yDj_le (F := f.testBit) (C := C) (g := g) (mu := mu) (q := q) (m := 9801 * ((n - (q + 1) : Nat) : Int)) hDl (by omega) (fun w => hg w q) j
  have hp := hle p
  have h0 := hle 0
  unfold F_Plan_firstAt
  rw [gR_9_3 hf, zb_some, show (128 : Int32) = nI 128 from rfl, pk_mul, nI_add, aI_11 hf (by omega), zb_some, show q * 128 + f = 128 * q + f by omega, hb0 f h, fo_9 hf, zb_some, X_worth0 hf hm hq hb h, zb_some, e1, e2]
  rw [e1] at hD
  rcases yFj_ok p (F := f.testBit) (C := C) (g := g) (mu := mu) (q := q) (D := yD C g n p mu (n - (q + 1))) with ⟨z1, z2⟩ | ⟨w, z1, z2, z3, z4, z5⟩
  · rw [z1, z2, if_pos rfl]
    rfl
  · rw [z2, nI_sub1 (by omega), Nat.add_sub_cancel, if_neg (fun z => by have := (yI_inj (hge 0) (hge p) (by omega) (by omega)).mp z; omega)]
    have hwl : ∀ i, i < p → ywc f.testBit C g q (yD C g n p mu (n - (q + 1))) i < 2 ^ 31 := by
      intro i hi
      have : ywc f.testBit C g q (yD C g n p mu (n - (q + 1))) i ≤ yDj f.testBit C g mu q (yD C g n p mu (n - (q + 1))) p := ywc_le hi
      omega
    refine fix1_t w (fun i => nI i) ?_ ?_ (zFU_lt (by omega))
    · intro r i hi
      rw [if_neg (show ¬ (7 : Int32) ≤ nI i by rw [show (7 : Int32) = nI 7 from rfl, nI_leI (by omega) (by omega)]; omega), show nI i + 1 = nI (i + 1) from nI_add i 1]
      by_cases hb1 : f.testBit i = true
      · rw [if_pos ((nI_bit (by omega) (by omega)).mpr hb1), zb_some, X_worth hg hf hm hq hb h hb1 (by omega), zb_some, if_neg (fun z => by have := (yI_inj (ywc_ge hDk) (hge p) (hwl i (by omega)) (by omega)).mp z; have := z5 i hi; omega)]
      · rw [if_neg (show ¬ ((nI f >>> (nI i &&& 31)) &&& 1) = 1 from fun z => hb1 ((nI_bit (by omega) (by omega)).mp z))]
    · intro r
      have hb1 : f.testBit w = true := by
        apply Classical.byContradiction
        intro z
        unfold ywc at z3
        rw [if_neg (fun y => z y.1)] at z3
        omega
      rw [if_neg (show ¬ (7 : Int32) ≤ nI w by rw [show (7 : Int32) = nI 7 from rfl, nI_leI (by omega) (by omega)]; omega), if_pos ((nI_bit (by omega) (by omega)).mpr hb1), zb_some, X_worth hg hf hm hq hb h hb1 z1, zb_some, z3, if_pos rfl]
/-- with the first that comes to the most the rest comes to what is left, and is a filling -/
theorem yF_next {k : Nat} {F : Nat → Bool} (hk : k + 1 ≤ n) (h : 0 ≤ yD C g n p mu (k + 1) F) : 0 ≤ yD C g n p mu k (ynx F (yF C g n p mu k F)) ∧ (yF C g n p mu k F ≠ 0 → yF C g n p mu k F - 1 < p ∧ F (yF C g n p mu k F - 1) = true) := by
  have h' : 0 ≤ yDj F C g mu (n - (k + 1)) (yD C g n p mu k) p := h
  have e2 : yF C g n p mu k F = yFj F C g mu (n - (k + 1)) (yD C g n p mu k) p := rfl
  rw [e2]
  rcases yFj_ok p (F := F) (C := C) (g := g) (mu := mu) (q := n - (k + 1)) (D := yD C g n p mu k) with ⟨z1, z2⟩ | ⟨w, z1, z2, z3, z4, z5⟩
  · rw [z1]
    refine ⟨?_, fun z => absurd rfl z⟩
    rw [← z2] at h'
    unfold yDj at h'
    by_cases hm : mu (n - (k + 1)) = true
    · rw [if_pos hm] at h'; omega
    · rw [if_neg hm] at h'
      exact h'
  · rw [z2, Nat.add_sub_cancel]
    rw [← z3] at h'
    unfold ywc at h'
    by_cases h1 : F w = true ∧ C w (n - (k + 1)) = true
    · rw [if_pos h1] at h'
      refine ⟨?_, fun _ => ⟨z1, h1.1⟩⟩
      by_cases h2 : yD C g n p mu k (yrm F w) < 0
      · rw [if_pos h2] at h'; omega
      · unfold ynx
        rw [if_neg (show ¬ w + 1 = 0 by omega), Nat.add_sub_cancel]
        omega
    · rw [if_neg h1] at h'; omega
def yB12 (a _k : Nat) : Prop := a = 12
theorem yPm_12 {u' : zS} (h : yNs yB12 u u') (hm : yPm C g mu n p T u.2.1) : yPm C g mu n p T u'.2.1 := yPm_c hm (h.2.2.2 _ _ (by unfold yB12; omega)) (h.2.2.2 _ _ (by unfold yB12; omega)) (fun k => h.2.2.2 _ _ (by unfold yB12; omega))
theorem X_lay (hg : ∀ w q, g w q ≤ 9801) (hf : zFr u) (hm : yPm C g mu n p T u.2.1) (hb : ∀ q, q ≤ n → yBq C g mu n p T 0 q u.2.1) : ∃ u', F_Plan_layDown u 9 (nI T) = some (yI (yD C g n p mu n T.testBit), u') ∧ yNs yB12 u u' ∧ (0 ≤ yD C g n p mu n T.testBit → ∀ j, j < n → u'.2.1 12 j = yL C g n p mu n T.testBit j) := by
  have hm' := hm
  obtain ⟨hn6, hp7, hT, h90, -⟩ := hm'
  have hT7 : T < 128 := Nat.lt_of_lt_of_le hT (p2_le hp7)
  have hfT : yfr T 0 0 T := by
    refine ⟨hT7, (zmi_0 hT7).mpr (fun _ z => z), ?_⟩
    rw [Nat.xor_self]
    decide
  have h0 := hb 0 (Nat.zero_le n) T hfT
  rw [Nat.mul_zero, Nat.zero_add, Nat.sub_zero] at h0
  have hDl := yDlt (C := C) (p := p) (mu := mu) hg hn6 n (Nat.le_refl n) T.testBit
  have hDg := yD_ge (C := C) (g := g) (n := n) (p := p) (mu := mu) n T.testBit
  unfold F_Plan_layDown
  rw [gR_9_3 hf, zb_some, aI_11 hf (by omega), zb_some, h0]
  by_cases hD : yD C g n p mu n T.testBit < 0
  · rw [if_pos ((yI_1 hDl).mpr hD)]
    exact ⟨u, by rw [yI_m hD], yNs_rf hf, fun z => by omega⟩
  · rw [if_neg (fun z => hD ((yI_1 hDl).mp z))]
    refine fix3_p n (fun q v x y => yNs yB12 u v ∧ y = nI q ∧ (∀ j, j < q → v.2.1 12 j = yL C g n p mu n T.testBit j) ∧ ∃ f, x = nI f ∧ yfr T 0 q f ∧ 0 ≤ yD C g n p mu (n - q) f.testBit ∧ ∀ j, q ≤ j → j < n → yL C g n p mu n T.testBit j = yL C g n p mu (n - q) f.testBit j) (fun o => ∃ u', o = some (yI (yD C g n p mu n T.testBit), u') ∧ yNs yB12 u u' ∧ (0 ≤ yD C g n p mu n T.testBit → ∀ j, j < n → u'.2.1 12 j = yL C g n p mu n T.testBit j)) ?_ ?_ (zFU_lt (by omega)) ⟨yNs_rf hf, rfl, fun j hj => absurd hj (Nat.not_lt_zero j), T, rfl, hfT, by rw [Nat.sub_zero]; omega, fun j _ _ => by rw [Nat.sub_zero]⟩
    · rintro r q v x y hq ⟨hv, rfl, hat, f, rfl, hfr, hDq, hL⟩
      have hvm := yPm_12 hv hm
      have hvb : ∀ q, q ≤ n → yBq C g mu n p T 0 q v.2.1 := fun q hq f hf2 => (hv.2.2.2 11 _ (by unfold yB12; omega)).trans (hb q hq f hf2)
      have hfirst := X_firstAt (m := 0) hg hv.1 hvm hq (hvb (q + 1) (by omega)) (hvb q (by omega)) hfr hDq
      have hn1 : n - q = (n - (q + 1)) + 1 := by omega
      rw [hn1] at hDq hL
      have hnx := yF_next (p := p) (by omega) hDq
      have hF := yFj_le (F := f.testBit) (C := C) (g := g) (mu := mu) (q := n - ((n - (q + 1)) + 1)) (D := yD C g n p mu (n - (q + 1))) p
      have hF2 : yF C g n p mu (n - (q + 1)) f.testBit ≤ p := hF
      generalize hFF : yF C g n p mu (n - (q + 1)) f.testBit = FF at *
      have f2 : zFr (zuI v 12 q (nI FF - 1)) := fr_uI hv.1
      have hyq : yL C g n p mu n T.testBit q = nI FF - 1 := by
        rw [hL q (Nat.le_refl q) hq]
        show (if q = n - ((n - (q + 1)) + 1) then nI (yF C g n p mu (n - (q + 1)) f.testBit) - 1 else _) = _
        rw [if_pos (by omega), hFF]
      have hLn : ∀ j, q + 1 ≤ j → j < n → yL C g n p mu n T.testBit j = yL C g n p mu (n - (q + 1)) (ynx f.testBit FF) j := by
        intro j h1 h2
        rw [hL j (by omega) h2]
        show (if j = n - ((n - (q + 1)) + 1) then _ else yL C g n p mu (n - (q + 1)) (ynx f.testBit (yF C g n p mu (n - (q + 1)) f.testBit)) j) = _
        rw [if_neg (by omega), hFF]
      have hat2 : ∀ j, j < q + 1 → (zuI v 12 q (nI FF - 1)).2.1 12 j = yL C g n p mu n T.testBit j := by
        intro j hj
        rw [uI_at]
        by_cases hjq : j = q
        · subst hjq; rw [if_pos ⟨rfl, rfl⟩, hyq]
        · rw [if_neg (by omega)]; exact hat j (by omega)
      have hq12 : (zuI v 12 q (nI FF - 1)).2.1 12 q = nI FF - 1 := by rw [uI_at, if_pos ⟨rfl, rfl⟩]
      left
      rw [gI_9 hv.1, zb_some, hvm.2.2.2.1, if_neg (show ¬ nI n ≤ nI q by rw [nI_leI (by omega) (by omega)]; omega), gR_9_4 hv.1, zb_some, fo_9 hv.1, zb_some, hfirst, zb_some, sI_12 hv.1 (by omega), zb_some, gR_9_4 f2, zb_some, aI_12 f2 (by omega), zb_some, hq12, show nI q + 1 = nI (q + 1) from nI_add q 1]
      by_cases hF0 : FF = 0
      · refine ⟨zuI v 12 q (nI FF - 1), nI f, nI (q + 1), ⟨yNs_w hv rfl, rfl, hat2, f, rfl, yfr_s hfr, ?_, ?_⟩, ?_⟩
        · have := hnx.1
          unfold ynx at this
          rw [if_pos hF0] at this
          exact this
        · intro j h1 h2
          rw [hLn j h1 h2]
          unfold ynx
          rw [if_pos hF0]
        · rw [if_pos (show nI FF - 1 = -1 by rw [hF0]; rfl)]
      · obtain ⟨w1, w2⟩ := hnx.2 hF0
        refine ⟨zuI v 12 q (nI FF - 1), nI (zmi f (2 ^ (FF - 1))), nI (q + 1), ⟨yNs_w hv rfl, rfl, hat2, zmi f (2 ^ (FF - 1)), rfl, yfr_rm hT7 hfr w2 (by omega), ?_, ?_⟩, ?_⟩
        · have := hnx.1
          unfold ynx at this
          rw [if_neg hF0] at this
          rw [rm_tb hfr.1]
          exact this
        · intro j h1 h2
          rw [hLn j h1 h2]
          unfold ynx
          rw [if_neg hF0, rm_tb hfr.1]
        · rw [if_neg (show ¬ nI FF - 1 = -1 by rw [nI_sub1 (by omega)]; exact nI_n1 (by omega)), zb_some, aI_12 f2 (by omega), zb_some, hq12, nI_sub1 (by omega), zlet_eq, n_shl1 (by omega), nI_mi hfr.1 (by have := Nat.pow_le_pow_right (n := 2) (by decide) (show FF - 1 ≤ 7 by omega); omega)]
    · rintro r v x y ⟨hv, rfl, hat, -⟩
      refine ⟨v, ?_, hv, fun _ => hat⟩
      have hvm := yPm_12 hv hm
      rw [gI_9 hv.1, zb_some, hvm.2.2.2.1, if_pos (Int32.le_refl _)]
end S
