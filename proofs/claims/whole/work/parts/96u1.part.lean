-- ===== reading: a part of a text =====
def yTfin (u14 : zS) : Option (Int32 × zS) := (zpI u14 9 (some 73) 15 0).bind fun u16 => (zgI u16 9 (some 73) 27).bind fun v17 => if v17 = 0 then ((zgI u16 9 (some 73) 16).bind fun v18 => (zpI u16 9 (some 73) 16 (v18 + 1)).bind fun u19 => (zgI u19 9 (some 73) 16).bind fun v20 => some ((v20 - 1), u19)) else ((zgI u16 9 (some 73) 28).bind fun v21 => some (((-100 : Int32) - v21), u16))
def yTend (u11 : zS) : Option (Int32 × zS) := (zgI u11 9 (some 73) 27).bind fun v13 => zjn1 (fun (j15 : zS → Option (Int32 × zS)) => if v13 = 0 then ((zgI u11 9 (some 73) 24).bind fun v22 => if v22 = 0 then (j15 u11) else ((zob u11 9 (some 73)).bind fun q25 => (F_M_wrong u11 q25 ).bind fun u24 => j15 u24)) else (j15 u11)) yTfin
def yTM (r10 : zS → Int32 → Option (Int32 × zS)) (u11 : zS) (x12 : Int32) : Option (Int32 × zS) := if 3 ≤ x12 then (yTend u11) else ((zgI u11 9 (some 73) 27).bind fun v26 => if v26 = 0 then ((zob u11 9 (some 73)).bind fun q41 => (F_M_isKey u11 q41 x12).bind fun v40 => if v40 = 0 then ((zob u11 9 (some 73)).bind fun q66 => (F_M_wrong u11 q66 ).bind fun u65 => yTend u65) else ((zob u11 9 (some 73)).bind fun q44 => (F_M_next u11 q44 ).bind fun u43 => (zgR u43 9 (some 73) 19).bind fun v45 => (zgI u43 9 (some 73) 16).bind fun v46 => (zgI u43 9 (some 73) 21).bind fun v47 => (zsI u43 v45 (((3 : Int32) * v46) + x12) v47).bind fun u48 => (zob u48 9 (some 73)).bind fun q51 => (GM 60 5 u48 q51 ).bind fun u50 => (zgR u50 9 (some 73) 20).bind fun v52 => (zgI u50 9 (some 73) 16).bind fun v53 => (zgI u50 9 (some 73) 21).bind fun v54 => (zsI u50 v52 (((3 : Int32) * v53) + x12) v54).bind fun u55 => (zob u55 9 (some 73)).bind fun q57 => (F_M_isSign u55 q57 59).bind fun v56 => if v56 = 0 then ((zob u55 9 (some 73)).bind fun q60 => (F_M_wrong u55 q60 ).bind fun u59 => r10 u59 (x12 + 1)) else ((zob u55 9 (some 73)).bind fun q63 => (F_M_next u55 q63 ).bind fun u62 => r10 u62 (x12 + 1)))) else (yTend u11))
def yTt (r11 : zS → Int32 → Option (Int32 × zS)) (x13 : Int32) (u26 : zS) : Option (Int32 × zS) := (zgR u26 5 (some 71) 2).bind fun v28 => (zob u26 7 v28).bind fun q31 => (F_Text_endPart u26 q31 x13).bind fun u30 => (zob u30 5 (some 71)).bind fun q34 => (F_Reader_expect u30 q34 59).bind fun u33 => r11 u33 (x13 + 1)
def yTX (r11 : zS → Int32 → Option (Int32 × zS)) (u12 : zS) (x13 : Int32) : Option (Int32 × zS) := if 3 ≤ x13 then ((zgI u12 5 (some 71) 4).bind fun v14 => if v14 = 13 then ((zpI u12 5 (some 71) 0 0).bind fun u15 => (zgI u15 5 (some 71) 7).bind fun v16 => some (v16, u15)) else ((zob u12 5 (some 71)).bind fun q19 => (F_Reader_refuse u12 q19 ).bind fun u18 => (zpI u18 5 (some 71) 0 0).bind fun u20 => (zgI u20 5 (some 71) 7).bind fun v21 => some (v21, u20))) else ((zob u12 5 (some 71)).bind fun q24 => (F_Reader_expect u12 q24 ((6 : Int32) + x13)).bind fun u23 => (zob u23 5 (some 71)).bind fun q27 => (GR 60 5 u23 q27 0).bind fun u26 => yTt r11 x13 u26)
def yFX2 (t j a k : Nat) : Prop := yFX t a k ∨ (a = 41 + 4 * t ∧ k = j)
def yFM2 (t j a k : Nat) : Prop := yFM t a k ∨ ((a = 86 ∨ a = 87) ∧ k = 3 * t + j)
section S
variable {B : Nat → Nat} {T t : Nat} {v : zS}
theorem gX_41 {x j : Nat} {L : List Int32} {w : Int32} (ht : t < 6) (h : gX B T t x L v) : gX B T t x L (zuI v (41 + 4 * t) j w) := by
  obtain ⟨h1, h2, h3, h4, h5, h6, h7, h8⟩ := h
  refine ⟨fr_uI h1, h2, ?_, ?_, ?_, ?_, ?_, fun i hi => ?_⟩
  · rw [uI_off (by omega)]; exact h3
  · exact yTb_c h4 (fun j => uI_off (by omega))
  · exact yAX_c h5 (fun k _ _ => uI_off (by omega))
  · rw [uI_off (by omega)]; exact h6
  · rw [uI_off (by omega)]; exact h7
  · rw [uI_off (by omega)]; exact h8 i hi
theorem wX_41 {f j : Nat} {w : Int32} (ht : t < 6) (h : wX T t f v) : wX T t f (zuI v (41 + 4 * t) j w) := by
  obtain ⟨h1, h2, h3, h4, h5, s, h6, h7⟩ := h
  exact ⟨fr_uI h1, h2, by rw [uI_off (by omega)]; exact h3, by rw [uI_off (by omega)]; exact h4, by rw [uI_off (by omega)]; exact h5, s, h6, by rw [uI_off (by omega)]; exact h7⟩
theorem gM_86 {x op j a : Nat} {L : List Int32} {w : Int32} (ha : a = 86 ∨ a = 87) (h : gM B T t x L op v) : gM B T t x L op (zuI v a j w) := by
  obtain ⟨h1, h2, h3, h4, h5, h6, h7, h8, h9⟩ := h
  refine ⟨fr_uI h1, ?_, ?_, ?_, ?_, ?_, ?_, ?_, fun j hj => ?_⟩
  · rw [uI_off (by omega)]; exact h2
  · exact yTb_c h3 (fun j => uI_off (by omega))
  · exact zLt_c h4 (fun a k z => uI_off (by omega))
  · exact yAM_c h5 (fun k _ _ => uI_off (by omega))
  · rw [uI_off (by omega)]; exact h6
  · rw [uI_off (by omega)]; exact h7
  · rw [uI_off (by omega)]; exact h8
  · rw [uI_off (by omega)]; exact h9 j hj
theorem wM_86 {f c j a : Nat} {w : Int32} (ha : a = 86 ∨ a = 87) (h : wM t f c v) : wM t f c (zuI v a j w) := by
  obtain ⟨h1, h2, h3, h4⟩ := h
  exact ⟨fr_uI h1, by rw [uI_off (by omega)]; exact h2, by rw [uI_off (by omega)]; exact h3, by rw [uI_off (by omega)]; exact h4⟩
theorem X_end {s j : Nat} (ht : t < 6) (hj : j < 3) (hf : zFr v) (hs : v.2.1 (39 + 4 * t) 1 = nI s) : F_Text_endPart v (39 + 4 * t) (nI j) = some (zuI v (41 + 4 * t) j (nI s)) := by
  unfold F_Text_endPart
  rw [if_neg (nI_lt0 (by omega)), if_neg (show ¬ (3 : Int32) ≤ nI j by rw [show (3 : Int32) = nI 3 from rfl, nI_leI (by omega) (by omega)]; omega), gR_T_2 hf ht, zb_some, gI_T hf ht, zb_some, hs, sI_T_2 hf ht hj, zb_some]
theorem X_exp {x k : Nat} {L : List Int32} (ht : t < 6) (hx : x ≤ T) (hk : ykx B T x = k) (hk13 : k ≠ 13) (h : gX B T t x L v) : ∃ v', F_Reader_expect v 71 (nI k) = some v' ∧ gX B T t (yex0 B T x) L v' ∧ yNs (yFX t) v v' := by
  obtain ⟨v', d1, d2, d3⟩ := X_go ht hx (by omega) h
  refine ⟨v', ?_, d2, d3⟩
  unfold F_Reader_expect
  rw [X_tok h, zb_some, hk, if_pos rfl, fo_71 h.1, zb_some, d1, zb_some]
theorem X_exn {x k : Nat} {L : List Int32} (ht : t < 6) (hB : ∀ j, B j < 256) (hL : L.length ≤ 160) (hk : ykx B T x ≠ k) (hk2 : k < 256) (h : gX B T t x L v) : ∃ v', F_Reader_expect v 71 (nI k) = some v' ∧ wX T t (yst0 B T x) v' ∧ yNs (yFX t) v v' := by
  obtain ⟨v', d1, d2, d3⟩ := X_ref ht hL h
  refine ⟨v', ?_, d2, d3⟩
  have hkx := ykx_256 (B := B) (T := T) (x := x) hB
  unfold F_Reader_expect
  rw [X_tok h, zb_some, if_neg (show ¬ nI (ykx B T x) = nI k from fun z => hk (nI_inj (by omega) (by omega) z)), fo_71 h.1, zb_some, d1, zb_some]
theorem X_exw {f k : Nat} (ht : t < 6) (hf : f < 2 ^ 31) (hk : k ≠ 13) (hk2 : k < 256) (h : wX T t f v) : ∃ v', F_Reader_expect v 71 (nI k) = some v' ∧ wX T t f v' ∧ yNs (yFX t) v v' := by
  obtain ⟨v', d1, d2, d3⟩ := X_refw ht hf h
  refine ⟨v', ?_, d2, d3⟩
  unfold F_Reader_expect
  rw [gI_71 h.1, zb_some, h.2.2.2.1, if_neg (show ¬ (13 : Int32) = nI k from fun y => hk (nI_inj (a := 13) (by decide) (by omega) y).symm), fo_71 h.1, zb_some, d1, zb_some]
theorem yFX2_i {j a k : Nat} (h : yFX t a k) : yFX2 t j a k := Or.inl h
theorem yFM2_i {j a k : Nat} (h : yFM t a k) : yFM2 t j a k := Or.inl h
theorem Xt_w {f j : Nat} (ht : t < 6) (hf : f < 2 ^ 31) (hj : j < 3) (h : wX T t f v) : ∃ v', (∀ r, yTt r (nI j) v = r v' (nI (j + 1))) ∧ wX T t f v' ∧ yNs (yFX2 t j) v v' := by
  have h' := h
  obtain ⟨h1, h2, h3, h4, h5, s, h6, h7⟩ := h'
  have w1 := wX_41 (j := j) (w := nI s) ht h
  obtain ⟨v', d1, d2, d3⟩ := X_exw (k := 59) ht hf (by decide) (by decide) w1
  have d1' : F_Reader_expect (zuI v (41 + 4 * t) j (nI s)) 71 59 = some v' := d1
  refine ⟨v', fun r => ?_, d2, yNs_tr (yNs_w (yNs_rf h1) (Or.inr ⟨rfl, rfl⟩)) (yNs_mo d3 (fun a k z => Or.inl z))⟩
  unfold yTt
  rw [gR_71_2 h1, zb_some, h2, fo_T h1 ht, zb_some, X_end ht hj h1 h7, zb_some, fo_71 w1.1, zb_some, d1', zb_some, show nI j + 1 = nI (j + 1) from nI_add j 1]
theorem XB_w {f j : Nat} (ht : t < 6) (hf : f < 2 ^ 31) (hj : j < 3) (h : wX T t f v) : ∃ v', (∀ r, yTX r v (nI j) = r v' (nI (j + 1))) ∧ wX T t f v' ∧ yNs (yFX2 t j) v v' := by
  obtain ⟨v1, a1, a2, a3⟩ := X_exw (k := 6 + j) ht hf (by omega) (by omega) h
  obtain ⟨v2, b1, b2, b3⟩ := X_w ht hf 5 60 0 v1 (by decide) (by decide) a2
  obtain ⟨v3, c1, c2, c3⟩ := Xt_w (j := j) ht hf hj b2
  refine ⟨v3, fun r => ?_, c2, yNs_tr (yNs_mo (yNs_tr a3 b3) (fun a k z => Or.inl z)) c3⟩
  unfold yTX
  rw [if_neg (show ¬ (3 : Int32) ≤ nI j by rw [show (3 : Int32) = nI 3 from rfl, nI_leI (by omega) (by omega)]; omega), fo_71 h.1, zb_some, show (6 : Int32) + nI j = nI (6 + j) from nI_add 6 j, a1, zb_some, fo_71 a2.1, zb_some, b1, zb_some, c1]
def yGX (t j a q : Nat) : Prop := yFX t a q ∨ (a = 41 + 4 * t ∧ j ≤ q) ∨ (a = 71 ∧ q = 0)
def yGM (t j a q : Nat) : Prop := yFM t a q ∨ ((a = 86 ∨ a = 87) ∧ 3 * t + j ≤ q ∧ q < 3 * t + 3) ∨ (a = 73 ∧ (q = 15 ∨ q = 16))
theorem XL_w {f : Nat} (ht : t < 6) (hf : f < 2 ^ 31) : ∀ k j v m, j + k = 3 → k < m → wX T t f v → ∃ v', zfix2 yTX m v (nI j) = some (nI f, v') ∧ yNs (yGX t j) v v' ∧ v'.2.1 71 0 = 0 := by
  intro k
  induction k with
  | zero =>
    intro j v m hj hm h
    obtain ⟨m, rfl⟩ : ∃ z, m = z + 1 := ⟨m - 1, by omega⟩
    obtain rfl : j = 3 := by omega
    have f1 : zFr (zuI v 71 0 0) := fr_uI h.1
    have g7 : (zuI v 71 0 0).2.1 71 7 = nI f := by rw [uI_at, if_neg (by omega)]; exact h.2.2.2.2.1
    refine ⟨zuI v 71 0 0, ?_, yNs_w (yNs_rf h.1) (Or.inr (Or.inr ⟨rfl, rfl⟩)), by rw [uI_at, if_pos ⟨rfl, rfl⟩]⟩
    show yTX (zfix2 yTX m) v (nI 3) = _
    unfold yTX
    rw [if_pos (show (3 : Int32) ≤ nI 3 by decide), gI_71 h.1, zb_some, h.2.2.2.1, if_pos rfl, pI_71 h.1, zb_some, gI_71 f1, zb_some, g7]
  | succ k ih =>
    intro j v m hj hm h
    obtain ⟨m, rfl⟩ : ∃ z, m = z + 1 := ⟨m - 1, by omega⟩
    obtain ⟨v1, a1, a2, a3⟩ := XB_w (j := j) ht hf (by omega) h
    obtain ⟨v2, b1, b2, b3⟩ := ih (j + 1) v1 m (by omega) (by omega) a2
    refine ⟨v2, ?_, yNs_tr (yNs_mo a3 ?_) (yNs_mo b2 ?_), b3⟩
    · show yTX (zfix2 yTX m) v (nI j) = _
      rw [a1]; exact b1
    · intro a q z
      rcases z with z | z
      · exact Or.inl z
      · exact Or.inr (Or.inl ⟨z.1, by omega⟩)
    · intro a q z
      rcases z with z | z | z
      · exact Or.inl z
      · exact Or.inr (Or.inl ⟨z.1, by omega⟩)
      · exact Or.inr (Or.inr z)
theorem Tend_w {f c : Nat} (h : wM t f c v) : yTend v = some ((-100 : Int32) - nI f, zuI v 73 15 0) := by
  have f1 : zFr (zuI v 73 15 0) := fr_uI h.1
  have g27 : (zuI v 73 15 0).2.1 73 27 = 1 := by rw [uI_at, if_neg (by omega)]; exact h.2.1
  have g28 : (zuI v 73 15 0).2.1 73 28 = nI f := by rw [uI_at, if_neg (by omega)]; exact h.2.2.1
  unfold yTend
  rw [gI_73 h.1, zb_some, h.2.1, zjn1_eq, if_neg (show ¬ (1 : Int32) = 0 by decide)]
  unfold yTfin
  rw [pI_73 h.1, zb_some, gI_73 f1, zb_some, g27, if_neg (show ¬ (1 : Int32) = 0 by decide), gI_73 f1, zb_some, g28]
theorem TM_w {f c j : Nat} (hj : j ≤ 3) (r : zS → Int32 → Option (Int32 × zS)) (h : wM t f c v) : yTM r v (nI j) = some ((-100 : Int32) - nI f, zuI v 73 15 0) := by
  unfold yTM
  by_cases z : (3 : Int32) ≤ nI j
  · rw [if_pos z, Tend_w h]
  · rw [if_neg z, gI_73 h.1, zb_some, h.2.1, if_neg (show ¬ (1 : Int32) = 0 by decide), Tend_w h]
theorem nI_3tj : ∀ t : Fin 6, ∀ j : Fin 3, (3 : Int32) * nI t.1 + nI j.1 = nI (3 * t.1 + j.1) := by decide +kernel
theorem P_part {x j : Nat} {L : List Int32} (ht : t < 6) (hT : T ≤ 160) (hB : ∀ j, B j < 256) (hj : j < 3) (hx : x ≤ T) (hL : L.length ≤ yst0 B T x) :
  (∃ x' N, x' ≤ T ∧ N.length + L.length ≤ yst0 B T x' ∧ zrun N 0 = some 1 ∧
   (∀ v, gX B T t x L v → ∃ v', (∀ r, yTX r v (nI j) = r v' (nI (j + 1))) ∧ gX B T t x' (L ++ N) v' ∧ v'.2.1 (41 + 4 * t) j = nI (L ++ N).length ∧ yNs (yFX2 t j) v v') ∧
   (∀ v, gM B T t x L 0 v → v.2.1 73 16 = nI t → ∃ v', (∀ r, yTM r v (nI j) = r v' (nI (j + 1))) ∧ gM B T t x' (L ++ N) 0 v' ∧ v'.2.1 86 (3 * t + j) = nI (510 * t + L.length) ∧ v'.2.1 87 (3 * t + j) = nI (510 * t + (L ++ N).length) ∧ yNs (yFM2 t j) v v')) ∨
  (∃ f, f ≤ T ∧ (∀ v, gX B T t x L v → ∃ v', (∀ r, yTX r v (nI j) = r v' (nI (j + 1))) ∧ wX T t f v' ∧ yNs (yFX2 t j) v v') ∧
   (∀ v, gM B T t x L 0 v → v.2.1 73 16 = nI t → ∃ v' c, wM t f c v' ∧ yNs (yFM2 t j) v v' ∧ ∀ r, (∀ w c, wM t f c w → r w (nI (j + 1)) = some ((-100 : Int32) - nI f, zuI w 73 15 0)) → yTM r v (nI j) = some ((-100 : Int32) - nI f, zuI v' 73 15 0))) := by
  have hst := yst_le (B := B) hx
  have b0 : b2 false = 0 := rfl
  have b1 : ¬ b2 true = 0 := by decide
  have n3 : ¬ (3 : Int32) ≤ nI j := by rw [show (3 : Int32) = nI 3 from rfl, nI_leI (by omega) (by omega)]; omega
  have m1 : ∀ {v x L}, gM B T t x L 0 v → v.2.1 73 27 = 0 := fun h => h.2.2.2.2.2.2.1
  have key : ∀ {v}, gM B T t x L 0 v → F_M_isKey v 73 (nI j) = some (b2 (decide (ykx B T x = 6 + j))) := fun hv => M_key hB hv (by omega)
  have hXrun : ∀ v v1 v2 v3, zFr v → F_Reader_expect v 71 (nI (6 + j)) = some v1 → zFr v1 → GR 60 5 v1 71 (nI 0) = some v2 → (∀ r, yTt r (nI j) v2 = r v3 (nI (j + 1))) → ∀ r, yTX r v (nI j) = r v3 (nI (j + 1)) := by
    intro v v1 v2 v3 hf a1 f1 c1 e1 r
    have c1' : GR 60 5 v1 71 0 = some v2 := c1
    unfold yTX
    rw [if_neg n3, fo_71 hf, zb_some, show (6 : Int32) + nI j = nI (6 + j) from nI_add 6 j, a1, zb_some, fo_71 f1, zb_some, c1', zb_some, e1]
  by_cases hk : ykx B T x = 6 + j
  · have hk13 : ykx B T x ≠ 13 := by omega
    obtain ⟨g1, g2⟩ := ynx_ok hx hk13
    have hMrun : ∀ v v1 v3 w r, gM B T t x L 0 v → F_M_next v 73 = some v1 → zFr v1 → v1.2.1 73 16 = nI t → v1.2.1 73 21 = nI (510 * t + L.length) → GM 60 5 (zuI v1 86 (3 * t + j) (nI (510 * t + L.length))) 73 = some v3 → zFr v3 → v3.2.1 73 16 = nI t → v3.2.1 73 21 = w → yTM r v (nI j) = ((F_M_isSign (zuI v3 87 (3 * t + j) w) 73 59).bind fun v56 => if v56 = 0 then ((F_M_wrong (zuI v3 87 (3 * t + j) w) 73).bind fun u59 => r u59 (nI j + 1)) else ((F_M_next (zuI v3 87 (3 * t + j) w) 73).bind fun u62 => r u62 (nI j + 1))) := by
      intro v v1 v3 w r hv d1 f1 e1 e2 d2 f3 e3 e4
      have f2 : zFr (zuI v1 86 (3 * t + j) (nI (510 * t + L.length))) := fr_uI f1
      have f4 : zFr (zuI v3 87 (3 * t + j) w) := fr_uI f3
      unfold yTM
      rw [if_neg n3, gI_73 hv.1, zb_some, m1 hv, if_pos rfl, fo_73 hv.1, zb_some, key hv, zb_some, decide_eq_true hk, if_neg b1, zb_some, d1, zb_some, gR_73_19 f1, zb_some, gI_73 f1, zb_some, e1, gI_73 f1, zb_some, e2, show (3 : Int32) * nI t + nI j = nI (3 * t + j) from nI_3tj ⟨t, ht⟩ ⟨j, hj⟩, sI_86 f1 (by omega), zb_some, fo_73 f2, zb_some, d2, zb_some, gR_73_20 f3, zb_some, gI_73 f3, zb_some, e3, gI_73 f3, zb_some, e4, show (3 : Int32) * nI t + nI j = nI (3 * t + j) from nI_3tj ⟨t, ht⟩ ⟨j, hj⟩, sI_87 f3 (by omega), zb_some, fo_73 f4, zb_some]
      rfl
    have hM1 : ∀ v, gM B T t x L 0 v → v.2.1 73 16 = nI t → ∃ v1, F_M_next v 73 = some v1 ∧ gM B T t (yex0 B T x) L 0 v1 ∧ v1.2.1 73 16 = nI t ∧ yNs (yFM t) v v1 := by
      intro v hv h16
      obtain ⟨v1, d1, d2, d3⟩ := M_go hx hk13 hv
      exact ⟨v1, d1, d2, by rw [d3.2.2.2 73 16 (by unfold yFM; omega)]; exact h16, d3⟩
    rcases J_all ht hT hB (yex0 B T x) L g1 (by omega) with ⟨x2, N, a1, a2, a3, a4, a5, a6⟩ | ⟨f, a1, a2, a3, a4⟩
    · have hst2 := yst_le (B := B) a1
      have hz : zrun N 0 = some 1 := a4 0 (Nat.le_refl _) (by omega)
      have hl : (L ++ N).length ≤ 160 := by rw [List.length_append]; omega
      have hX2 : ∀ v, gX B T t x L v → ∃ v1 v2, F_Reader_expect v 71 (nI (6 + j)) = some v1 ∧ zFr v1 ∧ GR 60 5 v1 71 (nI 0) = some v2 ∧ gX B T t x2 (L ++ N) v2 ∧ yNs (yFX t) v v2 := by
        intro v hv
        obtain ⟨v1, c1, c2, c3⟩ := X_exp ht hx hk (by omega) hv
        obtain ⟨v2, d1, d2, d3⟩ := a5 v1 c2
        exact ⟨v1, v2, c1, c2.1, d1, d2, yNs_tr c3 d3⟩
      have hM2 : ∀ v, gM B T t x L 0 v → v.2.1 73 16 = nI t → ∃ v1 v3, F_M_next v 73 = some v1 ∧ zFr v1 ∧ v1.2.1 73 16 = nI t ∧ v1.2.1 73 21 = nI (510 * t + L.length) ∧ GM 60 5 (zuI v1 86 (3 * t + j) (nI (510 * t + L.length))) 73 = some v3 ∧ gM B T t x2 (L ++ N) 0 v3 ∧ v3.2.1 73 16 = nI t ∧ v3.2.1 86 (3 * t + j) = nI (510 * t + L.length) ∧ yNs (yFM2 t j) v v3 := by
        intro v hv h16
        obtain ⟨v1, c1, c2, c3, c4⟩ := hM1 v hv h16
        obtain ⟨v3, d1, d2, d3⟩ := a6 _ (gM_86 (j := 3 * t + j) (w := nI (510 * t + L.length)) (Or.inl rfl) c2)
        refine ⟨v1, v3, c1, c2.1, c3, c2.2.2.2.2.2.2.2.1, d1, d2, ?_, ?_, yNs_tr (yNs_w (yNs_mo c4 (fun a k z => Or.inl z)) (Or.inr ⟨Or.inl rfl, rfl⟩)) (yNs_mo d3 (fun a k z => Or.inl z))⟩
        · rw [d3.2.2.2 73 16 (by unfold yFM; omega), uI_off (by omega)]; exact c3
        · rw [d3.2.2.2 86 _ (by unfold yFM; omega), uI_at, if_pos ⟨rfl, rfl⟩]
      by_cases k59 : ykx B T x2 = 59
      · have hk2 : ykx B T x2 ≠ 13 := by omega
        obtain ⟨q1, q2⟩ := ynx_ok a1 hk2
        refine Or.inl ⟨yex0 B T x2, N, q1, by omega, hz, fun v hv => ?_, fun v hv h16 => ?_⟩
        · obtain ⟨v1, v2, c1, c2, c3, c4, c5⟩ := hX2 v hv
          have w1 := gX_41 (j := j) (w := nI (L ++ N).length) ht c4
          obtain ⟨v3, d1, d2, d3⟩ := X_exp (k := 59) ht a1 k59 (by decide) w1
          have d1' : F_Reader_expect (zuI v2 (41 + 4 * t) j (nI (L ++ N).length)) 71 59 = some v3 := d1
          refine ⟨v3, hXrun v v1 v2 v3 hv.1 c1 c2 c3 (fun r => ?_), d2, ?_, yNs_tr (yNs_w (yNs_mo c5 (fun a k z => Or.inl z)) (Or.inr ⟨rfl, rfl⟩)) (yNs_mo d3 (fun a k z => Or.inl z))⟩
          · unfold yTt
            rw [gR_71_2 c4.1, zb_some, c4.2.1, fo_T c4.1 ht, zb_some, X_end ht hj c4.1 c4.2.2.2.2.2.2.1, zb_some, fo_71 w1.1, zb_some, d1', zb_some, show nI j + 1 = nI (j + 1) from nI_add j 1]
          · rw [d3.2.2.2 _ _ (by unfold yFX; omega), uI_at, if_pos ⟨rfl, rfl⟩]
        · obtain ⟨v1, v3, c1, c2, c3, c4, c5, c6, c7, c8, c9⟩ := hM2 v hv h16
          have w1 := gM_86 (j := 3 * t + j) (a := 87) (w := nI (510 * t + (L ++ N).length)) (Or.inr rfl) c6
          obtain ⟨v4, d1, d2, d3⟩ := M_go a1 hk2 w1
          have s59 : F_M_isSign (zuI v3 87 (3 * t + j) (nI (510 * t + (L ++ N).length))) 73 59 = some (b2 true) := by
            have := M_sign hB w1 (b := 59) (by decide) (by decide)
            rw [decide_eq_true k59] at this
            exact this
          refine ⟨v4, fun r => ?_, d2, ?_, ?_, yNs_tr (yNs_w c9 (Or.inr ⟨Or.inr rfl, rfl⟩)) (yNs_mo d3 (fun a k z => Or.inl z))⟩
          · rw [hMrun v v1 v3 _ r hv c1 c2 c3 c4 c5 c6.1 c7 c6.2.2.2.2.2.2.2.1, s59, zb_some, if_neg b1, d1, zb_some, show nI j + 1 = nI (j + 1) from nI_add j 1]
          · rw [d3.2.2.2 _ _ (by unfold yFM; omega), uI_off (by omega)]; exact c8
          · rw [d3.2.2.2 _ _ (by unfold yFM; omega), uI_at, if_pos ⟨rfl, rfl⟩]
      · refine Or.inr ⟨yst0 B T x2, hst2.2, fun v hv => ?_, fun v hv h16 => ?_⟩
        · obtain ⟨v1, v2, c1, c2, c3, c4, c5⟩ := hX2 v hv
          have w1 := gX_41 (j := j) (w := nI (L ++ N).length) ht c4
          obtain ⟨v3, d1, d2, d3⟩ := X_exn (k := 59) ht hB hl k59 (by decide) w1
          have d1' : F_Reader_expect (zuI v2 (41 + 4 * t) j (nI (L ++ N).length)) 71 59 = some v3 := d1
          refine ⟨v3, hXrun v v1 v2 v3 hv.1 c1 c2 c3 (fun r => ?_), d2, yNs_tr (yNs_w (yNs_mo c5 (fun a k z => Or.inl z)) (Or.inr ⟨rfl, rfl⟩)) (yNs_mo d3 (fun a k z => Or.inl z))⟩
          unfold yTt
          rw [gR_71_2 c4.1, zb_some, c4.2.1, fo_T c4.1 ht, zb_some, X_end ht hj c4.1 c4.2.2.2.2.2.2.1, zb_some, fo_71 w1.1, zb_some, d1', zb_some, show nI j + 1 = nI (j + 1) from nI_add j 1]
        · obtain ⟨v1, v3, c1, c2, c3, c4, c5, c6, c7, c8, c9⟩ := hM2 v hv h16
          have w1 := gM_86 (j := 3 * t + j) (a := 87) (w := nI (510 * t + (L ++ N).length)) (Or.inr rfl) c6
          obtain ⟨v4, d1, d2, d3⟩ := M_wro w1
          have s59 : F_M_isSign (zuI v3 87 (3 * t + j) (nI (510 * t + (L ++ N).length))) 73 59 = some (b2 false) := by
            have := M_sign hB w1 (b := 59) (by decide) (by decide)
            rw [decide_eq_false k59] at this
            exact this
          refine ⟨v4, _, d2, yNs_tr (yNs_w c9 (Or.inr ⟨Or.inr rfl, rfl⟩)) (yNs_mo d3 (fun a k z => Or.inl z)), fun r hr => ?_⟩
          rw [hMrun v v1 v3 _ r hv c1 c2 c3 c4 c5 c6.1 c7 c6.2.2.2.2.2.2.2.1, s59, zb_some, if_pos b0, d1, zb_some, show nI j + 1 = nI (j + 1) from nI_add j 1]
          exact hr _ _ d2
    · refine Or.inr ⟨f, a2, fun v hv => ?_, fun v hv h16 => ?_⟩
      · obtain ⟨v1, c1, c2, c3⟩ := X_exp ht hx hk (by omega) hv
        obtain ⟨v2, d1, d2, d3⟩ := a3 v1 c2
        obtain ⟨v3, e1, e2, e3⟩ := Xt_w (j := j) ht (by omega) hj d2
        exact ⟨v3, hXrun v v1 v2 v3 hv.1 c1 c2.1 d1 e1, e2, yNs_tr (yNs_mo (yNs_tr c3 d3) (fun a k z => Or.inl z)) e3⟩
      · obtain ⟨v1, c1, c2, c3, c4⟩ := hM1 v hv h16
        obtain ⟨v3, c, d1, d2, d3, d4⟩ := a4 _ (gM_86 (j := 3 * t + j) (w := nI (510 * t + L.length)) (Or.inl rfl) c2)
        have e16 : v3.2.1 73 16 = nI t := by rw [d4.2.2.2 73 16 (by unfold yFM; omega), uI_off (by omega)]; exact c3
        have w1 := wM_86 (j := 3 * t + j) (a := 87) (w := nI (510 * t + c)) (Or.inr rfl) d2
        refine ⟨_, c, w1, yNs_w (yNs_tr (yNs_w (yNs_mo c4 (fun a k z => Or.inl z)) (Or.inr ⟨Or.inl rfl, rfl⟩)) (yNs_mo d4 (fun a k z => Or.inl z))) (Or.inr ⟨Or.inr rfl, rfl⟩), fun r hr => ?_⟩
        rw [hMrun v v1 v3 _ r hv c1 c2.1 c3 c2.2.2.2.2.2.2.2.1 d1 d2.1 e16 d2.2.2.2, (M_signw w1).1, zb_some, if_pos b0, M_wrow w1, zb_some, show nI j + 1 = nI (j + 1) from nI_add j 1]
        exact hr _ _ w1
  · refine Or.inr ⟨yst0 B T x, hst.2, fun v hv => ?_, fun v hv h16 => ?_⟩
    · obtain ⟨v1, c1, c2, c3⟩ := X_exn (k := 6 + j) ht hB (by omega) hk (by omega) hv
      obtain ⟨v2, d1, d2, d3⟩ := X_w ht (by omega) 5 60 (nI 0) v1 (by decide) (by decide) c2
      obtain ⟨v3, e1, e2, e3⟩ := Xt_w (j := j) ht (by omega) hj d2
      exact ⟨v3, hXrun v v1 v2 v3 hv.1 c1 c2.1 d1 e1, e2, yNs_tr (yNs_mo (yNs_tr c3 d3) (fun a k z => Or.inl z)) e3⟩
    · obtain ⟨v1, d1, d2, d3⟩ := M_wro hv
      refine ⟨v1, _, d2, yNs_mo d3 (fun a k z => Or.inl z), fun r _ => ?_⟩
      unfold yTM
      rw [if_neg n3, gI_73 hv.1, zb_some, m1 hv, if_pos rfl, fo_73 hv.1, zb_some, key hv, zb_some, decide_eq_false hk, if_pos b0, zb_some, d1, zb_some, Tend_w d2]
end S
