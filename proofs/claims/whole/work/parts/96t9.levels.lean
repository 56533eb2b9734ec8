-- ===== reading: not, and all levels =====
section S
variable {B : Nat → Nat} {T t op : Nat}
def yqX (R : zS → Nat → Int32 → Option zS) (a1 : Int32) : zS → Option zS := fun u3 => (zgI u3 5 (some 71) 4).bind fun v5 => if v5 = 60 then ((zgI u3 5 (some 71) 4).bind fun v6 => zjn1 (fun (j8 : Int32 → Option (zS)) => if v6 = 60 then (j8 20004) else (j8 20005)) (fun (x7 : Int32) => (zob u3 5 (some 71)).bind fun q11 => (F_Reader_advance u3 q11 ).bind fun u10 => (zob u10 5 (some 71)).bind fun q14 => (R u10 q14 a1).bind fun u13 => (zgR u13 5 (some 71) 2).bind fun v15 => (zob u13 7 v15).bind fun q18 => (F_Text_add u13 q18 x7).bind fun u17 => some u17)) else ((zgI u3 5 (some 71) 4).bind fun v19 => if v19 = 61 then ((zgI u3 5 (some 71) 4).bind fun v20 => zjn1 (fun (j22 : Int32 → Option (zS)) => if v20 = 60 then (j22 20004) else (j22 20005)) (fun (x21 : Int32) => (zob u3 5 (some 71)).bind fun q25 => (F_Reader_advance u3 q25 ).bind fun u24 => (zob u24 5 (some 71)).bind fun q28 => (R u24 q28 a1).bind fun u27 => (zgR u27 5 (some 71) 2).bind fun v29 => (zob u27 7 v29).bind fun q32 => (F_Text_add u27 q32 x21).bind fun u31 => some u31)) else (some u3))
def yqM (R : zS → Nat → Option zS) : zS → Option zS := fun u4 => (zob u4 9 (some 73)).bind fun q7 => (F_M_isSign u4 q7 60).bind fun v6 => if v6 = 0 then ((zob u4 9 (some 73)).bind fun q19 => (F_M_isSign u4 q19 61).bind fun v18 => if v18 = 0 then (some u4) else ((zgI u4 9 (some 73) 25).bind fun v20 => (zob u4 9 (some 73)).bind fun q23 => (F_M_next u4 q23 ).bind fun u22 => (zob u22 9 (some 73)).bind fun q26 => (R u22 q26 ).bind fun u25 => (zob u25 9 (some 73)).bind fun q29 => (F_M_lay u25 q29 ((-100 : Int32) - v20)).bind fun u28 => some u28)) else ((zgI u4 9 (some 73) 25).bind fun v8 => (zob u4 9 (some 73)).bind fun q11 => (F_M_next u4 q11 ).bind fun u10 => (zob u10 9 (some 73)).bind fun q14 => (R u10 q14 ).bind fun u13 => (zob u13 9 (some 73)).bind fun q17 => (F_M_lay u13 q17 ((-100 : Int32) - v8)).bind fun u16 => some u16)
/-- perhaps one comparison -/
theorem J_cmp {n : Nat} (ht : t < 6) (hT : T ≤ 160) (hB : ∀ j, B j < 256) (h0 : yJ B T t 2 op n) {x : Nat} {L : List Int32} (hx : x ≤ T) (hL : L.length ≤ yst0 B T x) : yO B T t op 0 1 (5 * op + 3) (yqX (GR n 2) (nI op)) (yqM (GM n 2)) x L := by
  have b0 : b2 false = 0 := rfl
  have b1 : ¬ b2 true = 0 := by decide
  have hst := yst_le (B := B) hx
  have hkx := ykx_256 (B := B) (T := T) (x := x) hB
  have s60 : ∀ {v}, gM B T t x L op v → F_M_isSign v 73 60 = some (b2 (decide (ykx B T x = 60))) := fun hv => M_sign hB hv (b := 60) (by decide) (by decide)
  have s61 : ∀ {v}, gM B T t x L op v → F_M_isSign v 73 61 = some (b2 (decide (ykx B T x = 61))) := fun hv => M_sign hB hv (b := 61) (by decide) (by decide)
  by_cases hq : ykx B T x = 60 ∨ ykx B T x = 61
  · obtain ⟨a, hba, hXe, hMe⟩ : ∃ a : Int32, zbin a ∧ (∀ v v1 v2 v3, gX B T t x L v → F_Reader_advance v 71 = some v1 → zFr v1 → GR n 2 v1 71 (nI op) = some v2 → zFr v2 → v2.2.2.2 71 2 = some (39 + 4 * t) → F_Text_add v2 (39 + 4 * t) (ztr a) = some v3 → yqX (GR n 2) (nI op) v = some v3) ∧ (∀ v v1 v2 v3, gM B T t x L op v → F_M_next v 73 = some v1 → zFr v1 → GM n 2 v1 73 = some v2 → zFr v2 → F_M_lay v2 73 a = some v3 → yqM (GM n 2) v = some v3) := by
      rcases hq with e1 | e1
      · refine ⟨-160, by unfold zbin; decide, fun v v1 v2 v3 hv d1 f1 d2 f2 d3 d4 => ?_, fun v v1 v2 v3 hv d1 f1 d2 f2 d3 => ?_⟩
        · have d4' : F_Text_add v2 (39 + 4 * t) 20004 = some v3 := d4
          unfold yqX
          rw [X_tok hv, zb_some, e1, if_pos (show nI 60 = 60 from rfl), zb_some, zjn1_eq, if_pos (show nI 60 = 60 from rfl)]
          try dsimp only
          rw [fo_71 hv.1, zb_some, d1, zb_some, fo_71 f1, zb_some, d2, zb_some, gR_71_2 f2, zb_some, d3, fo_T f2 ht, zb_some, d4', zb_some]
        · have d3' : F_M_lay v2 73 ((-100 : Int32) - nI 60) = some v3 := d3
          unfold yqM
          rw [fo_73 hv.1, zb_some, s60 hv, zb_some, decide_eq_true e1, if_neg b1, gI_73 hv.1, zb_some, M_25 hv e1 (by decide), zb_some, d1, zb_some, fo_73 f1, zb_some, d2, zb_some, fo_73 f2, zb_some, d3', zb_some]
      · refine ⟨-161, by unfold zbin; decide, fun v v1 v2 v3 hv d1 f1 d2 f2 d3 d4 => ?_, fun v v1 v2 v3 hv d1 f1 d2 f2 d3 => ?_⟩
        · have d4' : F_Text_add v2 (39 + 4 * t) 20005 = some v3 := d4
          unfold yqX
          rw [X_tok hv, zb_some, e1, if_neg (show ¬ nI 61 = 60 by decide), zb_some, if_pos (show nI 61 = 61 from rfl), zb_some, zjn1_eq, if_neg (show ¬ nI 61 = 60 by decide)]
          try dsimp only
          rw [fo_71 hv.1, zb_some, d1, zb_some, fo_71 f1, zb_some, d2, zb_some, gR_71_2 f2, zb_some, d3, fo_T f2 ht, zb_some, d4', zb_some]
        · have d3' : F_M_lay v2 73 ((-100 : Int32) - nI 61) = some v3 := d3
          unfold yqM
          rw [fo_73 hv.1, zb_some, s60 hv, zb_some, decide_eq_false (show ¬ ykx B T x = 60 by omega), if_pos b0, zb_some, s61 hv, zb_some, decide_eq_true e1, if_neg b1, gI_73 hv.1, zb_some, M_25 hv e1 (by decide), zb_some, d1, zb_some, fo_73 f1, zb_some, d2, zb_some, fo_73 f2, zb_some, d3', zb_some]
    have hk13 : ykx B T x ≠ 13 := by omega
    have hlt := ykx_lt hx hk13
    obtain ⟨g1, g2⟩ := ynx_ok hx hk13
    rcases h0 (yex0 B T x) L g1 (by omega) with ⟨x2, N1, a1, a2, a3, a4, a5, a6⟩ | ⟨f, a1, a2, a3, a4⟩
    · have hst2 := yst_le (B := B) a1
      have happ : L ++ N1 ++ [a] = L ++ (N1 ++ [a]) := by simp
      refine Or.inl ⟨x2, N1 ++ [a], a1, by omega, by rw [List.length_append]; show N1.length + 1 + _ ≤ _; omega, fun d hd hdD => ?_, fun v hv => ?_, fun v hv => ?_⟩
      · rw [zrun_app, a4 d (Nat.zero_le d) (by omega)]
        show zrun [a] (d + 1) = _
        rw [zrun_bin hba (by omega)]
      · obtain ⟨v1, b1', b2', b3⟩ := X_go ht hx hk13 hv
        obtain ⟨v2, c1, c2, c3⟩ := a5 v1 b2'
        obtain ⟨v3, d1, d2, d3⟩ := X_add (a := a) ht (by rw [List.length_append]; omega) c2
        rw [happ] at d2
        exact ⟨v3, hXe v v1 v2 v3 hv b1' b2'.1 c1 c2.1 c2.2.1 d1, d2, yNs_tr b3 (yNs_tr c3 d3)⟩
      · obtain ⟨v1, b1', b2', b3⟩ := M_go hx hk13 hv
        obtain ⟨v2, c1, c2, c3⟩ := a6 v1 b2'
        obtain ⟨v3, d1, d2, d3⟩ := M_lay (a := a) ht (by rw [List.length_append]; omega) c2
        rw [happ] at d2
        exact ⟨v3, hMe v v1 v2 v3 hv b1' b2'.1 c1 c2.1 d1, d2, yNs_tr b3 (yNs_tr c3 d3)⟩
    · refine Or.inr ⟨f, by omega, a2, fun v hv => ?_, fun v hv => ?_⟩
      · obtain ⟨v1, b1', b2', b3⟩ := X_go ht hx hk13 hv
        obtain ⟨v2, c1, c2, c3⟩ := a3 v1 b2'
        obtain ⟨v3, d1, d2, d3⟩ := X_addw (a := ztr a) ht c2
        exact ⟨v3, hXe v v1 v2 v3 hv b1' b2'.1 c1 c2.1 c2.2.1 d1, d2, yNs_tr b3 (yNs_tr c3 d3)⟩
      · obtain ⟨v1, b1', b2', b3⟩ := M_go hx hk13 hv
        obtain ⟨v2, c, c1, c2, c3, c4⟩ := a4 v1 b2'
        obtain ⟨v3, d1, d2, d3⟩ := M_layw (a := a) ht (by omega) c2
        exact ⟨v3, c + 1, hMe v v1 v2 v3 hv b1' b2'.1 c1 c2.1 d1, d2, by omega, yNs_tr b3 (yNs_tr c4 d3)⟩
  · have n1 : ykx B T x ≠ 60 := fun z => hq (Or.inl z)
    have n2 : ykx B T x ≠ 61 := fun z => hq (Or.inr z)
    refine Or.inl ⟨x, [], hx, by omega, by simp, fun d _ _ => ?_, fun v hv => ⟨v, ?_, by rw [List.append_nil]; exact hv, yNs_rf hv.1⟩, fun v hv => ⟨v, ?_, by rw [List.append_nil]; exact hv, yNs_rf hv.1⟩⟩
    · rw [Nat.add_sub_cancel]; rfl
    · unfold yqX
      rw [X_tok hv, zb_some, if_neg (show ¬ nI (ykx B T x) = 60 from fun y => n1 (nI_inj (b := 60) (by omega) (by omega) y)), zb_some, if_neg (show ¬ nI (ykx B T x) = 61 from fun y => n2 (nI_inj (b := 61) (by omega) (by omega) y))]
    · unfold yqM
      rw [fo_73 hv.1, zb_some, s60 hv, zb_some, decide_eq_false n1, if_pos b0, zb_some, s61 hv, zb_some, decide_eq_false n2, if_pos b0]
theorem J_not {n : Nat} (ht : t < 6) (hT : T ≤ 160) (hB : ∀ j, B j < 256) (hop : op ≤ 5) (h0 : yJ B T t 2 op n) (hs3 : op < 5 → yJ B T t 3 (op + 1) n) : yJ B T t 3 op (n + 1) := by
  intro x L hx hL
  have hst := yst_le (B := B) hx
  have hkx := ykx_256 (B := B) (T := T) (x := x) hB
  show yO B T t op 1 0 (5 * op + 2) (fun v => F_Reader_readNot (GR n) v 71 (nI op)) (fun v => F_M_not (GM n) v 73) x L
  have b0 : b2 false = 0 := rfl
  have b1 : ¬ b2 true = 0 := by decide
  have k5 : ∀ {v}, gM B T t x L op v → F_M_isKey v 73 5 = some (b2 (decide (ykx B T x = 11))) := fun hv => M_key hB hv (k := 5) (by decide)
  by_cases k11 : ykx B T x = 11
  · have hX : ∀ v, gX B T t x L v → F_Reader_readNot (GR n) v 71 (nI op) = ((F_Reader_opens v 71 (nI op)).bind <| zk fun v33 u34 => if v33 = 0 then (some u34) else ((zob u34 5 (some 71)).bind fun q38 => (GR n 3 u34 q38 (nI op + 1)).bind fun u37 => (zgR u37 5 (some 71) 2).bind fun v39 => (zob u37 7 v39).bind fun q42 => (F_Text_add u37 q42 20000).bind fun u41 => some u41)) := by
      intro v hv
      unfold F_Reader_readNot
      rw [X_tok hv, zb_some, k11, if_pos (show nI 11 = 11 from rfl), fo_71 hv.1, zb_some]
    have hM : ∀ v, gM B T t x L op v → F_M_not (GM n) v 73 = ((F_M_opens v 73).bind <| zk fun v30 u31 => if v30 = 0 then (some u31) else ((zob u31 9 (some 73)).bind fun q35 => (GM n 3 u31 q35 ).bind fun u34 => (zob u34 9 (some 73)).bind fun q38 => (F_M_lay u34 q38 (-101)).bind fun u37 => (zgI u37 9 (some 73) 26).bind fun v39 => (zpI u37 9 (some 73) 26 (v39 - 1)).bind fun u40 => some u40)) := by
      intro v hv
      unfold F_M_not
      rw [fo_73 hv.1, zb_some, k5 hv, zb_some, decide_eq_true k11, if_neg b1, zb_some]
    have hk13 : ykx B T x ≠ 13 := by omega
    obtain ⟨g1, g2⟩ := ynx_ok hx hk13
    by_cases ho5 : op = 5
    · subst ho5
      refine Or.inr ⟨yst0 B T x, Nat.le_refl _, hst.2, fun v hv => ?_, fun v hv => ?_⟩
      · obtain ⟨v', a1, a2, a3⟩ := X_open5 ht (by omega) hv
        refine ⟨v', ?_, a2, a3⟩
        show F_Reader_readNot (GR n) v 71 (nI 5) = some v'
        rw [hX v hv, a1, zk_some, if_pos rfl]
      · obtain ⟨v', a1, a2, a3⟩ := M_open5 hv
        refine ⟨v', L.length, ?_, a2, Nat.le_refl _, a3⟩
        show F_M_not (GM n) v 73 = some v'
        rw [hM v hv, a1, zk_some, if_pos rfl]
    · have ho : op < 5 := by omega
      have subX : ∀ v, gX B T t x L v → ∃ v1, gX B T t (yex0 B T x) L v1 ∧ yNs (yFX t) v v1 ∧ ∀ v2 v3, GR n 3 v1 71 (nI (op + 1)) = some v2 → zFr v2 → v2.2.2.2 71 2 = some (39 + 4 * t) → F_Text_add v2 (39 + 4 * t) 20000 = some v3 → F_Reader_readNot (GR n) v 71 (nI op) = some v3 := by
        intro v hv
        obtain ⟨v1, a1, a2, a3⟩ := X_open ht hx hk13 ho hv
        refine ⟨v1, a2, a3, fun v2 v3 c1 f2 c2 c3 => ?_⟩
        rw [hX v hv, a1, zk_some, if_neg (show ¬ (1 : Int32) = 0 by decide), fo_71 a2.1, zb_some, show nI op + 1 = nI (op + 1) from nI_add op 1, c1, zb_some, gR_71_2 f2, zb_some, c2, fo_T f2 ht, zb_some, c3, zb_some]
      have subM : ∀ v, gM B T t x L op v → ∃ v1, gM B T t (yex0 B T x) L (op + 1) v1 ∧ yNs (yFM t) v v1 ∧ ∀ v2 v3, GM n 3 v1 73 = some v2 → zFr v2 → F_M_lay v2 73 (-101) = some v3 → zFr v3 → F_M_not (GM n) v 73 = some (zuI v3 73 26 (v3.2.1 73 26 - 1)) := by
        intro v hv
        obtain ⟨v1, a1, a2, a3⟩ := M_open hx hk13 ho hv
        refine ⟨v1, a2, a3, fun v2 v3 c1 f2 c2 f3 => ?_⟩
        rw [hM v hv, a1, zk_some, if_neg (show ¬ (1 : Int32) = 0 by decide), fo_73 a2.1, zb_some, c1, zb_some, fo_73 f2, zb_some, c2, zb_some, gI_73 f3, zb_some, pI_73 f3, zb_some]
      rcases hs3 ho (yex0 B T x) L g1 (by omega) with ⟨x2, N1, a1, a2, a3, a4, a5, a6⟩ | ⟨f, a1, a2, a3, a4⟩
      · have hst2 := yst_le (B := B) a1
        have happ : L ++ N1 ++ [(-101 : Int32)] = L ++ (N1 ++ [(-101 : Int32)]) := by simp
        refine Or.inl ⟨x2, N1 ++ [(-101 : Int32)], a1, by omega, by rw [List.length_append]; show N1.length + 1 + _ ≤ _; omega, fun d _ hd => ?_, fun v hv => ?_, fun v hv => ?_⟩
        · rw [zrun_app, a4 d (Nat.zero_le d) (by omega)]
          show zrun [(-101 : Int32)] (d + 1) = _
          rw [zrun_un (Or.inr rfl) (by omega)]; rfl
        · obtain ⟨v1, b1', b2', b3⟩ := subX v hv
          obtain ⟨v2, c1, c2, c3⟩ := a5 v1 b1'
          obtain ⟨v3, d1, d2, d3⟩ := X_add (a := (-101 : Int32)) ht (by rw [List.length_append]; omega) c2
          rw [happ] at d2
          exact ⟨v3, b3 v2 v3 c1 c2.1 c2.2.1 d1, d2, yNs_tr b2' (yNs_tr c3 d3)⟩
        · obtain ⟨v1, b1', b2', b3⟩ := subM v hv
          obtain ⟨v2, c1, c2, c3⟩ := a6 v1 b1'
          obtain ⟨v3, d1, d2, d3⟩ := M_lay (a := (-101 : Int32)) ht (by rw [List.length_append]; omega) c2
          have h26 : v3.2.1 73 26 - 1 = nI op := by rw [d2.2.2.2.2.2.1]; exact nI_pred op
          refine ⟨zuI v3 73 26 (nI op), by rw [← h26]; exact b3 v2 v3 c1 c2.1 d1 d2.1, ?_, yNs_w (yNs_tr b2' (yNs_tr c3 d3)) (Or.inl ⟨rfl, by decide, by decide⟩)⟩
          rw [← happ]
          exact gM_op d2
      · refine Or.inr ⟨f, by omega, a2, fun v hv => ?_, fun v hv => ?_⟩
        · obtain ⟨v1, b1', b2', b3⟩ := subX v hv
          obtain ⟨v2, c1, c2, c3⟩ := a3 v1 b1'
          obtain ⟨v3, d1, d2, d3⟩ := X_addw (a := (20000 : Int32)) ht c2
          exact ⟨v3, b3 v2 v3 c1 c2.1 c2.2.1 d1, d2, yNs_tr b2' (yNs_tr c3 d3)⟩
        · obtain ⟨v1, b1', b2', b3⟩ := subM v hv
          obtain ⟨v2, c, c1, c2, c3, c4⟩ := a4 v1 b1'
          obtain ⟨v3, d1, d2, d3⟩ := M_layw (a := (-101 : Int32)) ht (by omega) c2
          exact ⟨_, c + 1, b3 v2 v3 c1 c2.1 d1 d2.1, wM_op d2, by omega, yNs_w (yNs_tr b2' (yNs_tr c4 d3)) (Or.inl ⟨rfl, by decide, by decide⟩)⟩
  · refine yO_cg (RX' := fun v => (GR n 2 v 71 (nI op)).bind (yqX (GR n 2) (nI op))) (RM' := fun v => (GM n 2 v 73).bind (yqM (GM n 2))) (fun v hv => ?_) (fun v hv => ?_) (yO_seq (D1 := 5 * op + 3) (D2 := 5 * op + 3) (RX1 := fun v => GR n 2 v 71 (nI op)) (RX2 := yqX (GR n 2) (nI op)) (RM1 := fun v => GM n 2 v 73) (RM2 := yqM (GM n 2)) hL (fun v _ => rfl) (fun v _ => rfl) (h0 x L hx hL) (fun x' L' hx' hL' => J_cmp ht hT hB h0 hx' hL') (fun f v hf hv => ⟨v, ?_, hv, yNs_rf hv.1⟩) (fun f c v hv => ?_) (by omega) (by omega))
    · show F_Reader_readNot (GR n) v 71 (nI op) = _
      unfold F_Reader_readNot
      rw [X_tok hv, zb_some, if_neg (show ¬ nI (ykx B T x) = 11 from fun y => k11 (nI_inj (b := 11) (by omega) (by omega) y)), fo_71 hv.1, zb_some]
      rfl
    · show F_M_not (GM n) v 73 = _
      unfold F_M_not
      rw [fo_73 hv.1, zb_some, k5 hv, zb_some, decide_eq_false k11, if_pos b0, zb_some]
      rfl
    · unfold yqX
      rw [gI_71 hv.1, zb_some, hv.2.2.2.1, if_neg (show ¬ (13 : Int32) = 60 by decide), zb_some, if_neg (show ¬ (13 : Int32) = 61 by decide)]
    · unfold yqM
      rw [fo_73 hv.1, zb_some, (M_signw hv).1, zb_some, if_pos b0, zb_some, (M_signw hv).1, zb_some, if_pos b0]
/-- all levels: how much fuel a level wants -/
theorem J_lev (ht : t < 6) (hT : T ≤ 160) (hB : ∀ j, B j < 256) : ∀ k, k ≤ 5 → ∀ tag n, tag ≤ 5 → 7 * k + tag + 1 ≤ n → yJ B T t tag (5 - k) n := by
  intro k
  induction k with
  | zero =>
    intro _ tag
    induction tag with
    | zero =>
      intro n _ hn
      obtain ⟨n, rfl⟩ : ∃ m, n = m + 1 := ⟨n - 1, by omega⟩
      exact J_one ht hT hB (by omega) (fun z => absurd z (by omega)) (fun z => absurd z (by omega))
    | succ tag ih =>
      intro n htag hn
      obtain ⟨n, rfl⟩ : ∃ m, n = m + 1 := ⟨n - 1, by omega⟩
      have h0 := ih n (by omega) (by omega)
      rcases (show tag = 0 ∨ tag = 1 ∨ tag = 2 ∨ tag = 3 ∨ tag = 4 by omega) with rfl | rfl | rfl | rfl | rfl
      · exact J_term ht hT hB h0
      · exact J_sum ht hT hB h0
      · exact J_not ht hT hB (by omega) h0 (fun z => absurd z (by omega))
      · exact J_and ht hT hB h0
      · exact J_or ht hT hB h0
  | succ k ihk =>
    intro hk tag
    have e : 5 - (k + 1) + 1 = 5 - k := by omega
    induction tag with
    | zero =>
      intro n _ hn
      obtain ⟨n, rfl⟩ : ∃ m, n = m + 1 := ⟨n - 1, by omega⟩
      exact J_one ht hT hB (by omega) (fun _ => by rw [e]; exact ihk (by omega) 0 n (by decide) (by omega)) (fun _ => by rw [e]; exact ihk (by omega) 5 n (by decide) (by omega))
    | succ tag ih =>
      intro n htag hn
      obtain ⟨n, rfl⟩ : ∃ m, n = m + 1 := ⟨n - 1, by omega⟩
      have h0 := ih n (by omega) (by omega)
      rcases (show tag = 0 ∨ tag = 1 ∨ tag = 2 ∨ tag = 3 ∨ tag = 4 by omega) with rfl | rfl | rfl | rfl | rfl
      · exact J_term ht hT hB h0
      · exact J_sum ht hT hB h0
      · exact J_not ht hT hB (by omega) h0 (fun _ => by rw [e]; exact ihk (by omega) 3 n (by decide) (by omega))
      · exact J_and ht hT hB h0
      · exact J_or ht hT hB h0
theorem J_all (ht : t < 6) (hT : T ≤ 160) (hB : ∀ j, B j < 256) : yJ B T t 5 0 60 := J_lev ht hT hB 5 (by decide) 5 60 (by decide) (by decide)
end S
