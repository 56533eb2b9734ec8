-- ===== people =====
def zonB (n : Nat) (k r : Int32) : Bool := decide ((nI 0 ≤ k ∧ k < nI 6) ∧ nI 0 ≤ r ∧ r.toNatClampNeg / 100 < n)
theorem zonB_i {n : Nat} {k r : Int32} : zonB n k r = true ↔ zone n k r := by unfold zonB zone; exact decide_eq_true_iff
/-- how many there are behind i of a row -/
def zpp (n p : Nat) (kk rr : Nat → Int32) : Nat → Nat
  | 0 => p
  | i + 1 => if zonB n (kk i) (rr i) = true ∧ zpp n p kk rr i < 7 then zpp n p kk rr i + 1 else zpp n p kk rr i
def zmX (n p : Nat) (kk rr : Nat → Int32) (μ : zS) : Nat → zS
  | 0 => μ
  | i + 1 => if zonB n (kk i) (rr i) = true ∧ zpp n p kk rr i < 7 then zhX (zmX n p kk rr μ i) (zpp n p kk rr i) (kk i).toNatClampNeg (rr i).toNatClampNeg else zmX n p kk rr μ i
def zmM (n p : Nat) (kk rr : Nat → Int32) (μ : zS) : Nat → zS
  | 0 => μ
  | i + 1 => if zonB n (kk i) (rr i) = true ∧ zpp n p kk rr i < 7 then zhM (zmM n p kk rr μ i) (zpp n p kk rr i) (kk i).toNatClampNeg (rr i).toNatClampNeg else zmM n p kk rr μ i
def zmI (n p : Nat) (kk rr : Nat → Int32) (μ : zS) : Nat → zS
  | 0 => μ
  | i + 1 => if zonB n (kk i) (rr i) = true ∧ zpp n p kk rr i < 7 then zhM (zhX (zmI n p kk rr μ i) (zpp n p kk rr i) (kk i).toNatClampNeg (rr i).toNatClampNeg) (zpp n p kk rr i) (kk i).toNatClampNeg (rr i).toNatClampNeg else zmI n p kk rr μ i
theorem zpp_s (n p : Nat) (kk rr : Nat → Int32) (i : Nat) : zpp n p kk rr (i + 1) = if zonB n (kk i) (rr i) = true ∧ zpp n p kk rr i < 7 then zpp n p kk rr i + 1 else zpp n p kk rr i := rfl
theorem zmX_s (n p : Nat) (kk rr : Nat → Int32) (μ : zS) (i : Nat) : zmX n p kk rr μ (i + 1) = if zonB n (kk i) (rr i) = true ∧ zpp n p kk rr i < 7 then zhX (zmX n p kk rr μ i) (zpp n p kk rr i) (kk i).toNatClampNeg (rr i).toNatClampNeg else zmX n p kk rr μ i := rfl
theorem zmM_s (n p : Nat) (kk rr : Nat → Int32) (μ : zS) (i : Nat) : zmM n p kk rr μ (i + 1) = if zonB n (kk i) (rr i) = true ∧ zpp n p kk rr i < 7 then zhM (zmM n p kk rr μ i) (zpp n p kk rr i) (kk i).toNatClampNeg (rr i).toNatClampNeg else zmM n p kk rr μ i := rfl
theorem zmI_s (n p : Nat) (kk rr : Nat → Int32) (μ : zS) (i : Nat) : zmI n p kk rr μ (i + 1) = if zonB n (kk i) (rr i) = true ∧ zpp n p kk rr i < 7 then zhM (zhX (zmI n p kk rr μ i) (zpp n p kk rr i) (kk i).toNatClampNeg (rr i).toNatClampNeg) (zpp n p kk rr i) (kk i).toNatClampNeg (rr i).toNatClampNeg else zmI n p kk rr μ i := rfl
section S
variable {n p yr tx rl tp c : Nat} {μ : zS} {kk rr : Nat → Int32}
theorem zone_nat {k r : Int32} (h : zone n k r) : k.toNatClampNeg < 6 ∧ r.toNatClampNeg < 2 ^ 31 ∧ r.toNatClampNeg / 100 < n ∧ k = nI k.toNatClampNeg ∧ r = nI r.toNatClampNeg := by
  obtain ⟨k', r', h1, h2, h3, rfl, rfl⟩ := zone_ex h
  rw [nI_clamp (show k' < 2 ^ 31 by omega), nI_clamp h2]
  exact ⟨h1, h2, h3, rfl, rfl⟩
theorem X_hire_st {k r : Int32} (hf : zFr μ) (hn : μ.2.1 1 0 = nI n) (h6 : n ≤ 6) (hp : μ.2.1 0 2 = nI p) (hp7 : p ≤ 7) : ∃ v, F_X_hire μ 0 k r = some (v, if zonB n k r = true ∧ p < 7 then zhX μ p k.toNatClampNeg r.toNatClampNeg else μ) ∧ (v < 0 ↔ ¬ (zonB n k r = true ∧ p < 7)) := by
  by_cases hz : zone n k r
  · by_cases h7 : p < 7
    · obtain ⟨q1, q2, q3, q4, q5⟩ := zone_nat hz
      refine ⟨nI p, ?_, ?_⟩
      · rw [if_pos ⟨zonB_i.mpr hz, h7⟩]
        have := X_hire_ok hf hn h6 hp h7 q1 q2 q3
        rw [← q4, ← q5] at this
        exact this
      · exact ⟨fun q => absurd q (nI_lt0 (by omega)), fun q => absurd ⟨zonB_i.mpr hz, h7⟩ q⟩
    · have : p = 7 := by omega
      subst this
      exact ⟨-4, by rw [if_neg (fun q => h7 q.2)]; exact X_hire_full hf hn h6 hp hz, fun _ q => h7 q.2, fun _ => by decide⟩
  · exact ⟨-2, by rw [if_neg (fun q => hz (zonB_i.mp q.1))]; exact X_hire_bad hf hn h6 hz, fun _ q => hz (zonB_i.mp q.1), fun _ => by decide⟩
theorem M_pers_st {k r : Int32} (hf : zFr μ) (hn : μ.2.1 73 1 = nI n) (h6 : n ≤ 6) (hp : μ.2.1 73 4 = nI p) (hp7 : p ≤ 7) : ∃ v, F_M_person μ 73 k r = some (v, if zonB n k r = true ∧ p < 7 then zhM μ p k.toNatClampNeg r.toNatClampNeg else μ) ∧ (v < 0 ↔ ¬ (zonB n k r = true ∧ p < 7)) := by
  by_cases hz : zone n k r
  · by_cases h7 : p < 7
    · obtain ⟨q1, q2, q3, q4, q5⟩ := zone_nat hz
      refine ⟨nI p, ?_, ?_⟩
      · rw [if_pos ⟨zonB_i.mpr hz, h7⟩]
        have := M_person_ok hf hn h6 hp h7 q1 q2 q3
        rw [← q4, ← q5] at this
        exact this
      · exact ⟨fun q => absurd q (nI_lt0 (by omega)), fun q => absurd ⟨zonB_i.mpr hz, h7⟩ q⟩
    · have : p = 7 := by omega
      subst this
      exact ⟨-4, by rw [if_neg (fun q => h7 q.2)]; exact M_person_full hf hn h6 hp hz, fun _ q => h7 q.2, fun _ => by decide⟩
  · exact ⟨-2, by rw [if_neg (fun q => hz (zonB_i.mp q.1))]; exact M_person_bad hf hn h6 hz, fun _ q => hz (zonB_i.mp q.1), fun _ => by decide⟩
theorem zpp_le (hp7 : p ≤ 7) (i : Nat) : p ≤ zpp n p kk rr i ∧ zpp n p kk rr i ≤ 7 ∧ zpp n p kk rr i ≤ p + i := by
  induction i with
  | zero => exact ⟨Nat.le_refl p, hp7, Nat.le_refl p⟩
  | succ i ih =>
    rw [zpp_s]
    split <;> omega
theorem zmX_ok (hf : zFr μ) (hp : μ.2.1 0 2 = nI p) (i : Nat) : zFr (zmX n p kk rr μ i) ∧ (zmX n p kk rr μ i).2.1 0 2 = nI (zpp n p kk rr i) ∧ (∀ a k, (1 ≤ a ∧ a ≤ 17) ∨ 39 ≤ a → (hp7 : p ≤ 7) → (zmX n p kk rr μ i).2.1 a k = μ.2.1 a k) := by
  induction i with
  | zero => exact ⟨hf, hp, fun _ _ _ _ => rfl⟩
  | succ i ih =>
    rw [zmX_s, zpp_s]
    by_cases hz : zonB n (kk i) (rr i) = true ∧ zpp n p kk rr i < 7
    · rw [if_pos hz, if_pos hz]
      refine ⟨ih.1, rfl, fun a k ha hp7 => ?_⟩
      rw [zhX_off (by omega) (by omega)]
      exact ih.2.2 a k ha hp7
    · rw [if_neg hz, if_neg hz]
      exact ih
theorem zmM_ok (hf : zFr μ) (hp : μ.2.1 73 4 = nI p) (i : Nat) : zFr (zmM n p kk rr μ i) ∧ (zmM n p kk rr μ i).2.1 73 4 = nI (zpp n p kk rr i) ∧ (∀ a k, ¬ (a = 73 ∧ k = 4) → ¬ (76 ≤ a ∧ a ≤ 79) → (zmM n p kk rr μ i).2.1 a k = μ.2.1 a k) := by
  induction i with
  | zero => exact ⟨hf, hp, fun _ _ _ _ => rfl⟩
  | succ i ih =>
    rw [zmM_s, zpp_s]
    by_cases hz : zonB n (kk i) (rr i) = true ∧ zpp n p kk rr i < 7
    · rw [if_pos hz, if_pos hz]
      refine ⟨ih.1, rfl, fun a k ha ha2 => ?_⟩
      rw [zhM_off (by omega) (by omega)]
      exact ih.2.2 a k ha ha2
    · rw [if_neg hz, if_neg hz]
      exact ih
theorem zmI_st (h : zSt n p yr tx rl tp c μ) (i : Nat) : zSt n (zpp n p kk rr i) yr tx rl tp c (zmI n p kk rr μ i) := by
  induction i with
  | zero => exact h
  | succ i ih =>
    rw [zmI_s, zpp_s]
    by_cases hz : zonB n (kk i) (rr i) = true ∧ zpp n p kk rr i < 7
    · rw [if_pos hz, if_pos hz]
      obtain ⟨q1, q2, q3, q4, q5⟩ := zone_nat (zonB_i.mp hz.1)
      exact zSt_hire ih hz.2 q1 q2 q3
    · rw [if_neg hz, if_neg hz]
      exact ih
theorem zmI_X (hp7 : p ≤ 7) (i a k : Nat) (ha : a < 39) : (zmI n p kk rr μ i).2.1 a k = (zmX n p kk rr μ i).2.1 a k := by
  induction i with
  | zero => rfl
  | succ i ih =>
    rw [zmI_s, zmX_s]
    by_cases hz : zonB n (kk i) (rr i) = true ∧ zpp n p kk rr i < 7
    · rw [if_pos hz, if_pos hz, zhM_off (by omega) (by omega), zhX_at, zhX_at, ih]
    · rw [if_neg hz, if_neg hz]
      exact ih
theorem zmI_M {u : zS} (hu : ∀ a k, 39 ≤ a → u.2.1 a k = μ.2.1 a k) (i a k : Nat) (ha : 39 ≤ a) : (zmI n p kk rr μ i).2.1 a k = (zmM n p kk rr u i).2.1 a k := by
  induction i with
  | zero => exact (hu a k ha).symm
  | succ i ih =>
    rw [zmI_s, zmM_s]
    by_cases hz : zonB n (kk i) (rr i) = true ∧ zpp n p kk rr i < 7
    · rw [if_pos hz, if_pos hz, zhM_at, zhM_at, zhX_off (by omega) (by omega), ih]
    · rw [if_neg hz, if_neg hz]
      exact ih
/-- what comes of a run of hires on both sides -/
theorem zmXM_st (h : zSt n p yr tx rl tp c μ) (i : Nat) : zSt n (zpp n p kk rr i) yr tx rl tp c (zmM n p kk rr (zmX n p kk rr μ i) i) := by
  obtain ⟨hf, hP, hPe, -⟩ := id h
  have hX := zmX_ok (n := n) (kk := kk) (rr := rr) hf hPe.2.1 i
  have hM := zmM_ok (n := n) (p := p) (kk := kk) (rr := rr) hX.1 ((hX.2.2 73 4 (by omega) hPe.1).trans hPe.2.2.1) i
  refine ⟨hM.1, zRel_c (zmI_st (kk := kk) (rr := rr) h i).2 ?_⟩
  intro a k _
  by_cases ha : a < 39
  · rw [zmI_X hPe.1 i a k ha, hM.2.2 a k (by omega) (by omega)]
  · rw [zmI_M (u := zmX n p kk rr μ i) (fun a k ha => hX.2.2 a k (Or.inr ha) hPe.1) i a k (by omega)]
theorem zto : ∀ z : Fin 41, ∀ i : Fin 9, ((nI z.1 - 2) - ((2 : Int32) * nI i.1)).toInt = (z.1 : Int) - 2 - 2 * (i.1 : Int) := by decide +kernel
theorem zto_le {f z i : Nat} (hf : f < 2 ^ 31) (hz : z ≤ 40) (hi : i ≤ 8) : nI f ≤ (nI z - 2) - ((2 : Int32) * nI i) ↔ f + 2 * i + 2 ≤ z := by
  rw [fa_le, nI_toInt hf, zto ⟨z, by omega⟩ ⟨i, by omega⟩]
  try dsimp only
  omega
theorem X_people_loop {d f z N m : Nat} (h : zSt n p yr tx rl tp c μ) (hd : d < 4) (hz : μ.2.1 (63 + 2 * d) 1 = nI z) (hz4 : z ≤ 40) (hN : N ≤ 8) (hf31 : f < 2 ^ 31) (hm : m = min N ((z - f) / 2)) (hk : ∀ i, i < m → kk i = μ.2.1 (64 + 2 * d) (f + 2 * i)) (hr : ∀ i, i < m → rr i = μ.2.1 (64 + 2 * d) (f + 2 * i + 1)) :
   (zfix4 (fun (r25 : zS → Int32 → Int32 → Int32 → Option (Int32 × zS)) (u26 : zS) (x27 : Int32) (x28 : Int32) (x29 : Int32) => if nI N ≤ x29 then (some (x27, u26)) else ((zob u26 6 (some (63 + 2 * d))).bind fun q31 => (F_Sheet_hasRun u26 q31 x28 2).bind fun v30 => if v30 = 0 then (some ((-12), u26)) else ((zgR u26 6 (some (63 + 2 * d)) 2).bind fun v32 => (zaI u26 .int v32 x28).bind fun v33 => (zgR u26 6 (some (63 + 2 * d)) 2).bind fun v34 => (zaI u26 .int v34 (x28 + 1)).bind fun v35 => (zob u26 8 (some 0)).bind fun q38 => (F_X_hire u26 q38 v33 v35).bind <| zk fun v36 u37 => if v36 < 0 then (r25 u37 x27 (x28 + 2) (x29 + 1)) else (r25 u37 (x27 + 1) (x28 + 2) (x29 + 1))))) zFU μ 0 (nI f) 0) = some (if m = N then nI (zpp n p kk rr m - p) else -12, zmX n p kk rr μ m) := by
  obtain ⟨hf, hP, hPe, -⟩ := id h
  have e10 : ¬ (1 : Int32) = 0 := by decide
  have hX := fun i => zmX_ok (n := n) (kk := kk) (rr := rr) hf hPe.2.1 i
  have hl := fun i => zpp_le (n := n) (kk := kk) (rr := rr) hPe.1 i
  have h00 : zpp n p kk rr 0 - p = 0 := Nat.sub_self p
  have hmN : m ≤ N := by rw [hm]; exact Nat.min_le_left _ _
  have hmz : m ≤ (z - f) / 2 := by rw [hm]; exact Nat.min_le_right _ _
  have := fix4_t (b := (fun (r25 : zS → Int32 → Int32 → Int32 → Option (Int32 × zS)) (u26 : zS) (x27 : Int32) (x28 : Int32) (x29 : Int32) => if nI N ≤ x29 then (some (x27, u26)) else ((zob u26 6 (some (63 + 2 * d))).bind fun q31 => (F_Sheet_hasRun u26 q31 x28 2).bind fun v30 => if v30 = 0 then (some ((-12), u26)) else ((zgR u26 6 (some (63 + 2 * d)) 2).bind fun v32 => (zaI u26 .int v32 x28).bind fun v33 => (zgR u26 6 (some (63 + 2 * d)) 2).bind fun v34 => (zaI u26 .int v34 (x28 + 1)).bind fun v35 => (zob u26 8 (some 0)).bind fun q38 => (F_X_hire u26 q38 v33 v35).bind <| zk fun v36 u37 => if v36 < 0 then (r25 u37 x27 (x28 + 2) (x29 + 1)) else (r25 u37 (x27 + 1) (x28 + 2) (x29 + 1))))))
    (out := some (if m = N then nI (zpp n p kk rr m - p) else -12, zmX n p kk rr μ m)) m (fun i => zmX n p kk rr μ i) (fun i => nI (zpp n p kk rr i - p)) (fun i => nI (f + 2 * i)) (fun i => nI i) ?_ ?_ (N := zFU) (zFU_lt (by omega))
  · try dsimp only at this
    rw [h00] at this
    exact this
  · intro r i hi
    obtain ⟨g1, g2, g3⟩ := hX i
    have hsz : (zmX n p kk rr μ i).2.1 (63 + 2 * d) 1 = nI z := by rw [g3 _ _ (by omega) hPe.1]; exact hz
    have hrun : zrn z (nI (f + 2 * i)) 2 := ⟨f + 2 * i, 2, by omega, rfl, rfl⟩
    have hk' : (zmX n p kk rr μ i).2.1 (64 + 2 * d) (f + 2 * i) = kk i := by rw [g3 _ _ (by omega) hPe.1]; exact (hk i hi).symm
    have hr' : (zmX n p kk rr μ i).2.1 (64 + 2 * d) (f + 2 * i + 1) = rr i := by rw [g3 _ _ (by omega) hPe.1]; exact (hr i hi).symm
    obtain ⟨v, hv, hv0⟩ := X_hire_st (k := kk i) (r := rr i) g1 ((g3 1 0 (by omega) hPe.1).trans hP.2.1) hP.1 g2 (hl i).2.1
    try dsimp only
    rw [if_neg (show ¬ nI N ≤ nI i by rw [nI_leI (by omega) (by omega)]; omega), fo_S g1 hd, zb_some, (X_hasRun g1 hd hsz hz4).1 hrun, zb_some, if_neg e10, gR_S_2 g1 hd, zb_some, aI_S_2 g1 hd (by omega), zb_some, zb_some, show nI (f + 2 * i) + 1 = nI (f + 2 * i + 1) from nI_add _ 1, aI_S_2 g1 hd (by omega), zb_some, fo_0 g1, zb_some, hk', hr', hv, zk_some]
    have em : (if zonB n (kk i) (rr i) = true ∧ zpp n p kk rr i < 7 then zhX (zmX n p kk rr μ i) (zpp n p kk rr i) (kk i).toNatClampNeg (rr i).toNatClampNeg else zmX n p kk rr μ i) = zmX n p kk rr μ (i + 1) := rfl
    rw [em, show nI (f + 2 * i) + 2 = nI (f + 2 * (i + 1)) from nI_add _ 2, show nI i + 1 = nI (i + 1) from nI_add i 1]
    by_cases hzz : zonB n (kk i) (rr i) = true ∧ zpp n p kk rr i < 7
    · rw [if_neg (fun q => (hv0.mp q) hzz), show zpp n p kk rr (i + 1) = zpp n p kk rr i + 1 from if_pos hzz, show zpp n p kk rr i + 1 - p = (zpp n p kk rr i - p) + 1 by have := hl i; omega, show nI (zpp n p kk rr i - p) + 1 = nI (zpp n p kk rr i - p + 1) from nI_add _ 1]
    · rw [if_pos (hv0.mpr hzz), show zpp n p kk rr (i + 1) = zpp n p kk rr i from if_neg hzz]
  · intro r
    obtain ⟨g1, g2, g3⟩ := hX m
    try dsimp only
    by_cases hmn : m = N
    · rw [if_pos (show nI N ≤ nI m by rw [hmn]; exact Int32.le_refl _), if_pos hmn]
    · have hsz : (zmX n p kk rr μ m).2.1 (63 + 2 * d) 1 = nI z := by rw [g3 _ _ (by omega) hPe.1]; exact hz
      have hrun : ¬ zrn z (nI (f + 2 * m)) 2 := by
        rintro ⟨f', l', q1, q2, q3⟩
        have q4 : l' = 2 := nI_inj (by omega) (by decide) q3.symm
        have q5 : f + 2 * m = f' := nI_inj (by omega) (by omega) q2
        omega
      rw [if_neg (show ¬ nI N ≤ nI m by rw [nI_leI (by omega) (by omega)]; omega), fo_S g1 hd, zb_some, (X_hasRun g1 hd hsz hz4).2 hrun, zb_some, if_pos rfl, if_neg hmn]
theorem M_people_loop {d f z N m : Nat} (hf : zFr μ) (hn : μ.2.1 73 1 = nI n) (hn6 : n ≤ 6) (hp : μ.2.1 73 4 = nI p) (hp7 : p ≤ 7) (hd : d < 4) (hz : μ.2.1 100 d = nI z) (hz4 : z ≤ 40) (hN : N ≤ 8) (hf31 : f < 2 ^ 31) (hm : m = min N ((z - f) / 2)) (hk : ∀ i, i < m → kk i = μ.2.1 101 (40 * d + f + 2 * i)) (hr : ∀ i, i < m → rr i = μ.2.1 101 (40 * d + f + 2 * i + 1)) :
   (zfix3 (fun (r26 : zS → Int32 → Int32 → Option (Int32 × zS)) (u27 : zS) (x28 : Int32) (x29 : Int32) => if nI N ≤ x29 then (some (x28, u27)) else (if nI f < 0 then (some ((-12), u27)) else ((zgR u27 9 (some 73) 50).bind fun v30 => (zaI u27 .int v30 (nI d)).bind fun v31 => if nI f ≤ ((v31 - 2) - ((2 : Int32) * x29)) then (zlet (((((40 : Int32) * (nI d)) + nI f) + ((2 : Int32) * x29)) : Int32) fun x32 => (zgR u27 9 (some 73) 51).bind fun v33 => (zaI u27 .int v33 x32).bind fun v34 => (zgR u27 9 (some 73) 51).bind fun v35 => (zaI u27 .int v35 (x32 + 1)).bind fun v36 => (zob u27 9 (some 73)).bind fun q39 => (F_M_person u27 q39 v34 v36).bind <| zk fun v37 u38 => if v37 < 0 then (r26 u38 (x28 + 0) (x29 + 1)) else (r26 u38 (x28 + 1) (x29 + 1))) else (some ((-12), u27))))) zFU μ 0 0) = some (if m = N then nI (zpp n p kk rr m - p) else -12, zmM n p kk rr μ m) := by
  have hX := fun i => zmM_ok (n := n) (kk := kk) (rr := rr) hf hp i
  have hl := fun i => zpp_le (n := n) (kk := kk) (rr := rr) hp7 i
  have h00 : zpp n p kk rr 0 - p = 0 := Nat.sub_self p
  have hmN : m ≤ N := by rw [hm]; exact Nat.min_le_left _ _
  have hmz : m ≤ (z - f) / 2 := by rw [hm]; exact Nat.min_le_right _ _
  have := fix3_t (b := (fun (r26 : zS → Int32 → Int32 → Option (Int32 × zS)) (u27 : zS) (x28 : Int32) (x29 : Int32) => if nI N ≤ x29 then (some (x28, u27)) else (if nI f < 0 then (some ((-12), u27)) else ((zgR u27 9 (some 73) 50).bind fun v30 => (zaI u27 .int v30 (nI d)).bind fun v31 => if nI f ≤ ((v31 - 2) - ((2 : Int32) * x29)) then (zlet (((((40 : Int32) * (nI d)) + nI f) + ((2 : Int32) * x29)) : Int32) fun x32 => (zgR u27 9 (some 73) 51).bind fun v33 => (zaI u27 .int v33 x32).bind fun v34 => (zgR u27 9 (some 73) 51).bind fun v35 => (zaI u27 .int v35 (x32 + 1)).bind fun v36 => (zob u27 9 (some 73)).bind fun q39 => (F_M_person u27 q39 v34 v36).bind <| zk fun v37 u38 => if v37 < 0 then (r26 u38 (x28 + 0) (x29 + 1)) else (r26 u38 (x28 + 1) (x29 + 1))) else (some ((-12), u27))))))
    (out := some (if m = N then nI (zpp n p kk rr m - p) else -12, zmM n p kk rr μ m)) m (fun i => zmM n p kk rr μ i) (fun i => nI (zpp n p kk rr i - p)) (fun i => nI i) ?_ ?_ (N := zFU) (zFU_lt (by omega))
  · try dsimp only at this
    rw [h00] at this
    exact this
  · intro r i hi
    obtain ⟨g1, g2, g3⟩ := hX i
    have hsz : (zmM n p kk rr μ i).2.1 100 d = nI z := by rw [g3 _ _ (by omega) (by omega)]; exact hz
    have hk' : (zmM n p kk rr μ i).2.1 101 (40 * d + f + 2 * i) = kk i := by rw [g3 _ _ (by omega) (by omega)]; exact (hk i hi).symm
    have hr' : (zmM n p kk rr μ i).2.1 101 (40 * d + f + 2 * i + 1) = rr i := by rw [g3 _ _ (by omega) (by omega)]; exact (hr i hi).symm
    obtain ⟨v, hv, hv0⟩ := M_pers_st (k := kk i) (r := rr i) g1 ((g3 73 1 (by omega) (by omega)).trans hn) hn6 g2 (hl i).2.1
    have hat : (((40 : Int32) * (nI d)) + nI f) + ((2 : Int32) * nI i) = nI (40 * d + f + 2 * i) := by
      rw [show (40 : Int32) = nI 40 from rfl, show (2 : Int32) = nI 2 from rfl, pk_mul, pk_mul, nI_add, nI_add]
    try dsimp only
    rw [if_neg (show ¬ nI N ≤ nI i by rw [nI_leI (by omega) (by omega)]; omega), if_neg (nI_lt0 hf31), gR_73_50 g1, zb_some, aI_100 g1 hd, zb_some, hsz, if_pos ((zto_le hf31 hz4 (by omega)).mpr (by omega)), hat, zlet_eq, gR_73_51 g1, zb_some, aI_101 g1 (by omega), zb_some, zb_some, show nI (40 * d + f + 2 * i) + 1 = nI (40 * d + f + 2 * i + 1) from nI_add _ 1, aI_101 g1 (by omega), zb_some, fo_73 g1, zb_some, hk', hr', hv, zk_some]
    have em : (if zonB n (kk i) (rr i) = true ∧ zpp n p kk rr i < 7 then zhM (zmM n p kk rr μ i) (zpp n p kk rr i) (kk i).toNatClampNeg (rr i).toNatClampNeg else zmM n p kk rr μ i) = zmM n p kk rr μ (i + 1) := rfl
    rw [em, show nI i + 1 = nI (i + 1) from nI_add i 1]
    by_cases hzz : zonB n (kk i) (rr i) = true ∧ zpp n p kk rr i < 7
    · rw [if_neg (fun q => (hv0.mp q) hzz), show zpp n p kk rr (i + 1) = zpp n p kk rr i + 1 from if_pos hzz, show zpp n p kk rr i + 1 - p = (zpp n p kk rr i - p) + 1 by have := hl i; omega, show nI (zpp n p kk rr i - p) + 1 = nI (zpp n p kk rr i - p + 1) from nI_add _ 1]
    · rw [if_pos (hv0.mpr hzz), show zpp n p kk rr (i + 1) = zpp n p kk rr i from if_neg hzz, show nI (zpp n p kk rr i - p) + 0 = nI (zpp n p kk rr i - p + 0) from nI_add _ 0]; rfl
  · intro r
    obtain ⟨g1, g2, g3⟩ := hX m
    try dsimp only
    by_cases hmn : m = N
    · rw [if_pos (show nI N ≤ nI m by rw [hmn]; exact Int32.le_refl _), if_pos hmn]
    · have hsz : (zmM n p kk rr μ m).2.1 100 d = nI z := by rw [g3 _ _ (by omega) (by omega)]; exact hz
      rw [if_neg (show ¬ nI N ≤ nI m by rw [nI_leI (by omega) (by omega)]; omega), if_neg (nI_lt0 hf31), gR_73_50 g1, zb_some, aI_100 g1 hd, zb_some, hsz, if_neg (fun q => by have := (zto_le hf31 hz4 (by omega)).mp q; omega), if_neg hmn]
end S
