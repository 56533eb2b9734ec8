-- ===== reading: all levels =====
section S
variable {B : Nat → Nat} {T t op : Nat}
theorem yO_cg {e0 e1 D x : Nat} {L : List Int32} {RX RM RX' RM' : zS → Option zS} (hX : ∀ v, gX B T t x L v → RX v = RX' v) (hM : ∀ v, gM B T t x L op v → RM v = RM' v) (h : yO B T t op e0 e1 D RX' RM' x L) : yO B T t op e0 e1 D RX RM x L := by
  rcases h with ⟨x1, N1, a1, a2, a3, a4, a5, a6⟩ | ⟨f, a1, a2, a3, a4⟩
  · exact Or.inl ⟨x1, N1, a1, a2, a3, a4, fun v hv => by rw [hX v hv]; exact a5 v hv, fun v hv => by rw [hM v hv]; exact a6 v hv⟩
  · exact Or.inr ⟨f, a1, a2, fun v hv => by rw [hX v hv]; exact a3 v hv, fun v hv => by rw [hM v hv]; exact a4 v hv⟩
theorem J_lp {tag n : Nat} {bX : (zS → Int32 → Option zS) → zS → Int32 → Option zS} {bM : (zS → Option zS) → zS → Option zS} {opf : Nat → Option Int32} (ht : t < 6) (hT : T ≤ 160) (htag : tag + 1 ≤ 5)
    (hrX : ∀ v, GR (n + 1) (tag + 1) v 71 (nI op) = (zob v 5 (some 71)).bind fun q => (GR n tag v q (nI op)).bind fun u => zfix2 bX zFU u 0)
    (hrM : ∀ v, GM (n + 1) (tag + 1) v 73 = (zob v 9 (some 73)).bind fun q => (GM n tag v q).bind fun u => zfix1 bM zFU u)
    (h13 : opf 13 = none) (hbin : ∀ k a, opf k = some a → zbin a)
    (hX0 : ∀ r v i x L, gX B T t x L v → i ≤ 160 → opf (ykx B T x) = none → bX r v (nI i) = some v)
    (hX1 : ∀ r v i x L a v1 v2 v3, gX B T t x L v → i < 160 → opf (ykx B T x) = some a → F_Reader_advance v 71 = some v1 → zFr v1 → GR n tag v1 71 (nI op) = some v2 → zFr v2 → v2.2.2.2 71 2 = some (39 + 4 * t) → F_Text_add v2 (39 + 4 * t) (ztr a) = some v3 → bX r v (nI i) = r v3 (nI (i + 1)))
    (hX2 : ∀ r v i f, wX T t f v → i ≤ 160 → bX r v (nI i) = some v)
    (hM0 : ∀ r v x L, gM B T t x L op v → opf (ykx B T x) = none → bM r v = some v)
    (hM1 : ∀ r v x L a v1 v2 v3, gM B T t x L op v → opf (ykx B T x) = some a → F_M_next v 73 = some v1 → zFr v1 → GM n tag v1 73 = some v2 → zFr v2 → F_M_lay v2 73 a = some v3 → bM r v = r v3)
    (hM2 : ∀ r v f c, wM t f c v → bM r v = some v)
    (hs : yJ B T t tag op n) : yJ B T t (tag + 1) op (n + 1) := by
  intro x L hx hL
  refine yO_seq (D1 := 5 * op + (5 - tag)) (D2 := 5 * op + (5 - tag)) (RX1 := fun v => GR n tag v 71 (nI op)) (RX2 := fun v => zfix2 bX zFU v 0) (RM1 := fun v => GM n tag v 73) (RM2 := fun v => zfix1 bM zFU v) hL (fun v hv => ?_) (fun v hv => ?_) (hs x L hx hL) (fun x' L' hx' hL' => ?_) (fun f v hf hv => ?_) (fun f c v hv => ?_) (by omega) (by omega)
  · show GR (n + 1) (tag + 1) v 71 (nI op) = _
    rw [hrX, fo_71 hv, zb_some]
  · show GM (n + 1) (tag + 1) v 73 = _
    rw [hrM, fo_73 hv, zb_some]
  · exact yO_loop (SX := fun v => GR n tag v 71 (nI op)) (SM := fun v => GM n tag v 73) ht hT h13 hbin hX0 hX1 hX2 hM0 hM1 hM2 hs 160 x' L' 0 zFU zFU (by omega) hx' (Nat.zero_le _) hL' (by unfold zFU; omega) (by unfold zFU; omega)
  · exact ⟨v, hX2 (zfix2 bX 99999) v 0 f hv (by decide), hv, yNs_rf hv.1⟩
  · exact hM2 (zfix1 bM 99999) v f c hv
def ybX (R : zS → Nat → Int32 → Option zS) (a1 k s : Int32) : (zS → Int32 → Option zS) → zS → Int32 → Option zS := fun r4 u5 x6 => if 160 ≤ x6 then (some u5) else ((zgI u5 5 (some 71) 4).bind fun v7 => if v7 = k then ((zob u5 5 (some 71)).bind fun q10 => (F_Reader_advance u5 q10 ).bind fun u9 => (zob u9 5 (some 71)).bind fun q13 => (R u9 q13 a1).bind fun u12 => (zgR u12 5 (some 71) 2).bind fun v14 => (zob u12 7 v14).bind fun q17 => (F_Text_add u12 q17 s).bind fun u16 => r4 u16 (x6 + 1)) else (some u5))
def ybM (tst : zS → Nat → Option Int32) (R : zS → Nat → Option zS) (a : Int32) : (zS → Option zS) → zS → Option zS := fun r4 u5 => (zob u5 9 (some 73)).bind fun q7 => (tst u5 q7).bind fun v6 => if v6 = 0 then (some u5) else ((zob u5 9 (some 73)).bind fun q10 => (F_M_next u5 q10 ).bind fun u9 => (zob u9 9 (some 73)).bind fun q13 => (R u9 q13 ).bind fun u12 => (zob u12 9 (some 73)).bind fun q16 => (F_M_lay u12 q16 a).bind fun u15 => r4 u15)
theorem J_l1 {tag n k : Nat} {s a : Int32} {tst : zS → Nat → Option Int32} (ht : t < 6) (hT : T ≤ 160) (hB : ∀ j, B j < 256) (htag : tag + 1 ≤ 5) (hk : k ≠ 13) (hk2 : k < 256) (hs : s = ztr a) (hba : zbin a)
    (hrX : ∀ v, GR (n + 1) (tag + 1) v 71 (nI op) = (zob v 5 (some 71)).bind fun q => (GR n tag v q (nI op)).bind fun u => zfix2 (ybX (GR n tag) (nI op) (nI k) s) zFU u 0)
    (hrM : ∀ v, GM (n + 1) (tag + 1) v 73 = (zob v 9 (some 73)).bind fun q => (GM n tag v q).bind fun u => zfix1 (ybM tst (GM n tag) a) zFU u)
    (ht1 : ∀ v x L, gM B T t x L op v → tst v 73 = some (b2 (decide (ykx B T x = k)))) (ht2 : ∀ v f c, wM t f c v → tst v 73 = some (b2 false))
    (h0 : yJ B T t tag op n) : yJ B T t (tag + 1) op (n + 1) := by
  have b0 : b2 false = 0 := rfl
  have b1 : ¬ b2 true = 0 := by decide
  have o1 : ∀ {j : Nat}, (if j = k then some a else none) = none → j ≠ k := fun {j} h z => by rw [if_pos z] at h; cases h
  have o2 : ∀ {j : Nat} {c : Int32}, (if j = k then some a else none) = some c → j = k ∧ c = a := fun {j c} h => by
    by_cases z : j = k
    · rw [if_pos z] at h; exact ⟨z, (Option.some.inj h).symm⟩
    · rw [if_neg z] at h; cases h
  refine J_lp (opf := fun j => if j = k then some a else none) ht hT htag hrX hrM (if_neg (fun z => hk z.symm)) (fun j c h => (o2 h).2 ▸ hba) (fun r v i x L hv hi ho => ?_) (fun r v i x L c v1 v2 v3 hv hi ho d1 f1 d2 f2 d3 d4 => ?_) (fun r v i f hv hi => ?_) (fun r v x L hv ho => ?_) (fun r v x L c v1 v2 v3 hv ho d1 f1 d2 f2 d3 => ?_) (fun r v f c hv => ?_) h0
  · have hkx := ykx_256 (B := B) (T := T) (x := x) hB
    unfold ybX
    by_cases z : (160 : Int32) ≤ nI i
    · rw [if_pos z]
    · rw [if_neg z, X_tok hv, zb_some, if_neg (show ¬ nI (ykx B T x) = nI k from fun y => o1 ho (nI_inj (by omega) (by omega) y))]
  · obtain ⟨e1, e2⟩ := o2 ho
    subst e2
    unfold ybX
    rw [if_neg (show ¬ (160 : Int32) ≤ nI i by rw [show (160 : Int32) = nI 160 from rfl, nI_leI (by omega) (by omega)]; omega), X_tok hv, zb_some, e1, if_pos rfl, fo_71 hv.1, zb_some, d1, zb_some, fo_71 f1, zb_some, d2, zb_some, gR_71_2 f2, zb_some, d3, fo_T f2 ht, zb_some, hs, d4, zb_some, show nI i + 1 = nI (i + 1) from nI_add i 1]
  · unfold ybX
    by_cases z : (160 : Int32) ≤ nI i
    · rw [if_pos z]
    · rw [if_neg z, gI_71 hv.1, zb_some, hv.2.2.2.1, if_neg (show ¬ (13 : Int32) = nI k from fun y => hk (nI_inj (a := 13) (by decide) (by omega) y).symm)]
  · unfold ybM
    rw [fo_73 hv.1, zb_some, ht1 v x L hv, zb_some, decide_eq_false (o1 ho), if_pos b0]
  · obtain ⟨e1, e2⟩ := o2 ho
    subst e2
    unfold ybM
    rw [fo_73 hv.1, zb_some, ht1 v x L hv, zb_some, decide_eq_true e1, if_neg b1, zb_some, d1, zb_some, fo_73 f1, zb_some, d2, zb_some, fo_73 f2, zb_some, d3, zb_some]
  · unfold ybM
    rw [fo_73 hv.1, zb_some, ht2 v f c hv, zb_some, if_pos b0]
theorem J_term {n : Nat} (ht : t < 6) (hT : T ≤ 160) (hB : ∀ j, B j < 256) (h : yJ B T t 0 op n) : yJ B T t 1 op (n + 1) :=
  J_l1 (k := 42) (s := 20008) (a := (-142)) (tst := fun u q => F_M_isSign u q 42) ht hT hB (by decide) (by decide) (by decide) (by decide) (by unfold zbin; decide) (fun v => rfl) (fun v => rfl) (fun v x L hv => M_sign hB hv (b := 42) (by decide) (by decide)) (fun v f c hv => (M_signw hv).1) h
theorem J_and {n : Nat} (ht : t < 6) (hT : T ≤ 160) (hB : ∀ j, B j < 256) (h : yJ B T t 3 op n) : yJ B T t 4 op (n + 1) :=
  J_l1 (k := 10) (s := 20003) (a := (-102)) (tst := fun u q => F_M_isKey u q 4) ht hT hB (by decide) (by decide) (by decide) (by decide) (by unfold zbin; decide) (fun v => rfl) (fun v => rfl) (fun v x L hv => M_key hB hv (k := 4) (by decide)) (fun v f c hv => (M_signw hv).2) h
theorem J_or {n : Nat} (ht : t < 6) (hT : T ≤ 160) (hB : ∀ j, B j < 256) (h : yJ B T t 4 op n) : yJ B T t 5 op (n + 1) :=
  J_l1 (k := 9) (s := 20002) (a := (-103)) (tst := fun u q => F_M_isKey u q 3) ht hT hB (by decide) (by decide) (by decide) (by decide) (by unfold zbin; decide) (fun v => rfl) (fun v => rfl) (fun v x L hv => M_key hB hv (k := 3) (by decide)) (fun v f c hv => (M_signw hv).2) h
def ybX2 (R : zS → Nat → Int32 → Option zS) (a1 : Int32) : (zS → Int32 → Option zS) → zS → Int32 → Option zS := fun r4 u5 x6 => if 160 ≤ x6 then (some u5) else ((zgI u5 5 (some 71) 4).bind fun v7 => if v7 = 43 then ((zgI u5 5 (some 71) 4).bind fun v8 => zjn1 (fun (j10 : Int32 → Option (zS)) => if v8 = 43 then (j10 20006) else (j10 20007)) (fun (x9 : Int32) => (zob u5 5 (some 71)).bind fun q13 => (F_Reader_advance u5 q13 ).bind fun u12 => (zob u12 5 (some 71)).bind fun q16 => (R u12 q16 a1).bind fun u15 => (zgR u15 5 (some 71) 2).bind fun v17 => (zob u15 7 v17).bind fun q20 => (F_Text_add u15 q20 x9).bind fun u19 => r4 u19 (x6 + 1))) else ((zgI u5 5 (some 71) 4).bind fun v21 => if v21 = 45 then ((zgI u5 5 (some 71) 4).bind fun v22 => zjn1 (fun (j24 : Int32 → Option (zS)) => if v22 = 43 then (j24 20006) else (j24 20007)) (fun (x23 : Int32) => (zob u5 5 (some 71)).bind fun q27 => (F_Reader_advance u5 q27 ).bind fun u26 => (zob u26 5 (some 71)).bind fun q30 => (R u26 q30 a1).bind fun u29 => (zgR u29 5 (some 71) 2).bind fun v31 => (zob u29 7 v31).bind fun q34 => (F_Text_add u29 q34 x23).bind fun u33 => r4 u33 (x6 + 1))) else (some u5)))
def ybM2 (R : zS → Nat → Option zS) : (zS → Option zS) → zS → Option zS := fun r4 u5 => (zob u5 9 (some 73)).bind fun q7 => (F_M_isSign u5 q7 43).bind fun v6 => if v6 = 0 then ((zob u5 9 (some 73)).bind fun q19 => (F_M_isSign u5 q19 45).bind fun v18 => if v18 = 0 then (some u5) else ((zgI u5 9 (some 73) 25).bind fun v20 => (zob u5 9 (some 73)).bind fun q23 => (F_M_next u5 q23 ).bind fun u22 => (zob u22 9 (some 73)).bind fun q26 => (R u22 q26 ).bind fun u25 => (zob u25 9 (some 73)).bind fun q29 => (F_M_lay u25 q29 ((-100 : Int32) - v20)).bind fun u28 => r4 u28)) else ((zgI u5 9 (some 73) 25).bind fun v8 => (zob u5 9 (some 73)).bind fun q11 => (F_M_next u5 q11 ).bind fun u10 => (zob u10 9 (some 73)).bind fun q14 => (R u10 q14 ).bind fun u13 => (zob u13 9 (some 73)).bind fun q17 => (F_M_lay u13 q17 ((-100 : Int32) - v8)).bind fun u16 => r4 u16)
theorem M_25 {v : zS} {x k : Nat} {L : List Int32} (h : gM B T t x L op v) (hk : ykx B T x = k) (h15 : 15 ≤ k) : v.2.1 73 25 = nI k := by
  have := h.2.2.2.2.1.2.2.2 (by show ykx B T x ≠ 13; omega) (by show ykx B T x ≠ 14; omega)
  rw [this]
  show nI (yMw (ykx B T x) _) = _
  rw [hk]
  unfold yMw
  rw [if_neg (by omega), if_neg (by omega), if_neg (by omega)]
theorem J_sum {n : Nat} (ht : t < 6) (hT : T ≤ 160) (hB : ∀ j, B j < 256) (h0 : yJ B T t 1 op n) : yJ B T t 2 op (n + 1) := by
  have b0 : b2 false = 0 := rfl
  have b1 : ¬ b2 true = 0 := by decide
  have o1 : ∀ {j : Nat}, (if j = 43 then some (-143 : Int32) else if j = 45 then some (-145 : Int32) else none) = none → j ≠ 43 ∧ j ≠ 45 := fun {j} h => ⟨fun z => (by rw [if_pos z] at h; cases h), fun z => (by rw [if_neg (by omega), if_pos z] at h; cases h)⟩
  have o2 : ∀ {j : Nat} {c : Int32}, (if j = 43 then some (-143 : Int32) else if j = 45 then some (-145 : Int32) else none) = some c → (j = 43 ∧ c = -143) ∨ (j = 45 ∧ c = -145) := fun {j c} h => by
    by_cases z : j = 43
    · rw [if_pos z] at h; exact Or.inl ⟨z, (Option.some.inj h).symm⟩
    · by_cases y : j = 45
      · rw [if_neg z, if_pos y] at h; exact Or.inr ⟨y, (Option.some.inj h).symm⟩
      · rw [if_neg z, if_neg y] at h; cases h
  have s43 : ∀ {v x L}, gM B T t x L op v → F_M_isSign v 73 43 = some (b2 (decide (ykx B T x = 43))) := fun hv => M_sign hB hv (b := 43) (by decide) (by decide)
  have s45 : ∀ {v x L}, gM B T t x L op v → F_M_isSign v 73 45 = some (b2 (decide (ykx B T x = 45))) := fun hv => M_sign hB hv (b := 45) (by decide) (by decide)
  refine J_lp (tag := 1) (bX := ybX2 (GR n 1) (nI op)) (bM := ybM2 (GM n 1)) (opf := fun j => if j = 43 then some (-143 : Int32) else if j = 45 then some (-145 : Int32) else none) ht hT (by decide) (fun v => rfl) (fun v => rfl) rfl (fun j c h => ?_) (fun r v i x L hv hi ho => ?_) (fun r v i x L c v1 v2 v3 hv hi ho d1 f1 d2 f2 d3 d4 => ?_) (fun r v i f hv hi => ?_) (fun r v x L hv ho => ?_) (fun r v x L c v1 v2 v3 hv ho d1 f1 d2 f2 d3 => ?_) (fun r v f c hv => ?_) h0
  · rcases o2 h with ⟨-, e⟩ | ⟨-, e⟩ <;> rw [e] <;> unfold zbin <;> decide
  · have hkx := ykx_256 (B := B) (T := T) (x := x) hB
    obtain ⟨n1, n2⟩ := o1 ho
    unfold ybX2
    by_cases z : (160 : Int32) ≤ nI i
    · rw [if_pos z]
    · rw [if_neg z, X_tok hv, zb_some, if_neg (show ¬ nI (ykx B T x) = 43 from fun y => n1 (nI_inj (b := 43) (by omega) (by omega) y)), zb_some, if_neg (show ¬ nI (ykx B T x) = 45 from fun y => n2 (nI_inj (b := 45) (by omega) (by omega) y))]
  · unfold ybX2
    rw [if_neg (show ¬ (160 : Int32) ≤ nI i by rw [show (160 : Int32) = nI 160 from rfl, nI_leI (by omega) (by omega)]; omega), X_tok hv, zb_some]
    rcases o2 ho with ⟨e1, e2⟩ | ⟨e1, e2⟩
    · rw [e2] at d4
      have d4' : F_Text_add v2 (39 + 4 * t) 20006 = some v3 := d4
      rw [e1, if_pos (show nI 43 = 43 from rfl), zb_some, zjn1_eq, if_pos (show nI 43 = 43 from rfl)]
      try dsimp only
      rw [fo_71 hv.1, zb_some, d1, zb_some, fo_71 f1, zb_some, d2, zb_some, gR_71_2 f2, zb_some, d3, fo_T f2 ht, zb_some, d4', zb_some, show nI i + 1 = nI (i + 1) from nI_add i 1]
    · rw [e2] at d4
      have d4' : F_Text_add v2 (39 + 4 * t) 20007 = some v3 := d4
      rw [e1, if_neg (show ¬ nI 45 = 43 by decide), zb_some, if_pos (show nI 45 = 45 from rfl), zb_some, zjn1_eq, if_neg (show ¬ nI 45 = 43 by decide)]
      try dsimp only
      rw [fo_71 hv.1, zb_some, d1, zb_some, fo_71 f1, zb_some, d2, zb_some, gR_71_2 f2, zb_some, d3, fo_T f2 ht, zb_some, d4', zb_some, show nI i + 1 = nI (i + 1) from nI_add i 1]
  · unfold ybX2
    by_cases z : (160 : Int32) ≤ nI i
    · rw [if_pos z]
    · rw [if_neg z, gI_71 hv.1, zb_some, hv.2.2.2.1, if_neg (show ¬ (13 : Int32) = 43 by decide), zb_some, if_neg (show ¬ (13 : Int32) = 45 by decide)]
  · obtain ⟨n1, n2⟩ := o1 ho
    unfold ybM2
    rw [fo_73 hv.1, zb_some, s43 hv, zb_some, decide_eq_false n1, if_pos b0, zb_some, s45 hv, zb_some, decide_eq_false n2, if_pos b0]
  · unfold ybM2
    rcases o2 ho with ⟨e1, e2⟩ | ⟨e1, e2⟩
    · rw [e2] at d3
      have d3' : F_M_lay v2 73 ((-100 : Int32) - nI 43) = some v3 := d3
      rw [fo_73 hv.1, zb_some, s43 hv, zb_some, decide_eq_true e1, if_neg b1, gI_73 hv.1, zb_some, M_25 hv e1 (by decide), zb_some, d1, zb_some, fo_73 f1, zb_some, d2, zb_some, fo_73 f2, zb_some, d3', zb_some]
    · rw [e2] at d3
      have d3' : F_M_lay v2 73 ((-100 : Int32) - nI 45) = some v3 := d3
      rw [fo_73 hv.1, zb_some, s43 hv, zb_some, decide_eq_false (show ¬ ykx B T x = 43 by omega), if_pos b0, zb_some, s45 hv, zb_some, decide_eq_true e1, if_neg b1, gI_73 hv.1, zb_some, M_25 hv e1 (by decide), zb_some, d1, zb_some, fo_73 f1, zb_some, d2, zb_some, fo_73 f2, zb_some, d3', zb_some]
  · unfold ybM2
    rw [fo_73 hv.1, zb_some, (M_signw hv).1, zb_some, if_pos b0, zb_some, (M_signw hv).1, zb_some, if_pos b0]
end S
