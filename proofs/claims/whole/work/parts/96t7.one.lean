-- ===== reading: one =====
section S
variable {B : Nat → Nat} {T t op : Nat}
def yJ (B : Nat → Nat) (T t tag op n : Nat) : Prop := ∀ x L, x ≤ T → L.length ≤ yst0 B T x → yO B T t op 1 0 (5 * op + (5 - tag)) (fun v => GR n tag v 71 (nI op)) (fun v => GM n tag v 73) x L
theorem yvl_9 {s : Nat} (h : ∀ i, i < 4 → True) : ∀ m, m ≤ 4 → (∀ i, i < m → ydg (B (s + i)) = true) → yvl B s m ≤ 9999 := by
  intro m hm hd
  have a : ∀ i, i < m → B (s + i) - 48 ≤ 9 := fun i hi => by have := ydg_i (hd i hi); omega
  rcases (show m = 0 ∨ m = 1 ∨ m = 2 ∨ m = 3 ∨ m = 4 by omega) with rfl | rfl | rfl | rfl | rfl
  · exact Nat.zero_le _
  · have := a 0 (by omega); simp [yvl] at *; omega
  · have := a 0 (by omega); have := a 1 (by omega); simp [yvl] at *; omega
  · have := a 0 (by omega); have := a 1 (by omega); have := a 2 (by omega); simp [yvl] at *; omega
  · have := a 0 (by omega); have := a 1 (by omega); have := a 2 (by omega); have := a 3 (by omega); simp [yvl] at *; omega
def yvx (B : Nat → Nat) (T x : Nat) : Nat := yvl B (yst0 B T x) (yex0 B T x - yst0 B T x)
theorem yvx_9 {x : Nat} (hx : x ≤ T) (hk : ykx B T x = 12) : yvx B T x ≤ 9999 := by
  have hlt := ykx_lt hx (show ykx B T x ≠ 13 by omega)
  unfold ykx ykd at hk
  rw [if_neg (by omega)] at hk
  unfold yvx
  by_cases h1 : ylt (B (yst0 B T x)) = true
  · exfalso
    rw [if_pos h1] at hk
    unfold ywd at hk
    rcases yfi_ex (P := ymt B (yst0 B T x) (yen B T (yst0 B T x))) (N := 12) with h | ⟨i, h1, h2, h3, h4⟩
    · rw [h] at hk; cases hk
    · rw [h4] at hk; dsimp only at hk; omega
  · rw [if_neg h1] at hk
    by_cases h2 : ydg (B (yst0 B T x)) = true
    · rw [if_pos h2] at hk
      have h3 : yen B T (yst0 B T x) - yst0 B T x ≤ 4 := by
        apply Classical.byContradiction
        intro z
        rw [if_neg z] at hk; cases hk
      have e1 : yen B T (yst0 B T x) = yR (fun i => ydg (B i)) T (yst0 B T x) := by
        unfold yen
        rw [if_neg (by omega), if_neg h1, if_pos h2]
      obtain ⟨q1, q2, q3, q4⟩ := yR_ok (P := fun i => ydg (B i)) (T := T) (x := yst0 B T x) (by omega)
      refine yvl_9 (fun _ _ => trivial) _ h3 (fun i hi => ?_)
      unfold yex0 at hi
      rw [e1] at hi
      exact q3 _ (by omega) (by omega)
    · exfalso
      rw [if_neg h2] at hk
      by_cases h3 : ysg (B (yst0 B T x)) = true
      · rw [if_pos h3] at hk
        unfold ysg at h3
        have := of_decide_eq_true h3
        omega
      · rw [if_neg h3] at hk; cases hk
theorem ztr_n {a : Nat} (h : a ≤ 9999) : ztr (nI a) = nI a ∧ (-6 : Int32) ≤ nI a ∧ nI a ≤ 9999 := by
  have h1 : ¬ nI a < -99 := fun z => by
    have := (fa_lt _ _).mp z
    rw [nI_toInt (by omega), show (-99 : Int32).toInt = -99 by decide] at this
    omega
  refine ⟨?_, ?_, ?_⟩
  · unfold ztr
    rw [if_neg h1, if_neg (nI_lt0 (by omega))]
  · rw [fa_le, nI_toInt (by omega), show (-6 : Int32).toInt = -6 by decide]; omega
  · rw [show (9999 : Int32) = nI 9999 from rfl, nI_leI (by omega) (by omega)]; exact h
theorem ztr_m : ∀ k : Fin 6, (10000 : Int32) + nI k.1 = ztr ((-1 : Int32) - nI k.1) ∧ (-6 : Int32) ≤ (-1 : Int32) - nI k.1 ∧ (-1 : Int32) - nI k.1 ≤ 9999 := by decide +kernel
theorem zrun_push {a : Int32} {d : Nat} (h : (-6) ≤ a ∧ a ≤ 9999) (hd : d < 40) : zrun [a] d = some (d + 1) := by
  unfold zrun
  rw [if_pos h, if_pos hd]
  rfl
theorem zrun_un {a : Int32} {d : Nat} (h : a = (-100) ∨ a = (-101)) (hd : 1 ≤ d) : zrun [a] d = some d := by
  unfold zrun
  rw [if_neg (by rcases h with h | h <;> rw [h] <;> decide), if_pos h, if_pos hd]
  rfl
theorem X_tok {v : zS} {x : Nat} {L : List Int32} (h : gX B T t x L v) : zgI v 5 (some 71) 4 = some (nI (ykx B T x)) := by
  rw [gI_71 h.1]
  exact congrArg some h.2.2.2.2.1.2.1
theorem M_tok {v : zS} {x : Nat} {L : List Int32} (h : gM B T t x L op v) : zgI v 9 (some 73) 24 = some (nI (yMt (ykx B T x))) := by
  rw [gI_73 h.1]
  exact congrArg some h.2.2.2.2.1.2.2.1
/-- one more is open: the class -/
theorem X_open {v : zS} {x : Nat} {L : List Int32} (ht : t < 6) (hx : x ≤ T) (hk : ykx B T x ≠ 13) (hop : op < 5) (h : gX B T t x L v) : ∃ v', F_Reader_opens v 71 (nI op) = some (1, v') ∧ gX B T t (yex0 B T x) L v' ∧ yNs (yFX t) v v' := by
  obtain ⟨v', a1, a2, a3⟩ := X_go ht hx hk h
  refine ⟨v', ?_, a2, a3⟩
  unfold F_Reader_opens
  rw [if_pos (show nI op < 5 by rw [show (5 : Int32) = nI 5 from rfl, nI_ltI (by omega) (by omega)]; exact hop), fo_71 h.1, zb_some, a1, zb_some]
theorem X_open5 {v : zS} {x : Nat} {L : List Int32} (ht : t < 6) (hL : L.length ≤ 160) (h : gX B T t x L v) : ∃ v', F_Reader_opens v 71 (nI 5) = some (0, v') ∧ wX T t (yst0 B T x) v' ∧ yNs (yFX t) v v' := by
  obtain ⟨v', a1, a2, a3⟩ := X_ref ht hL h
  refine ⟨v', ?_, a2, a3⟩
  unfold F_Reader_opens
  rw [if_neg (show ¬ nI 5 < 5 by decide), fo_71 h.1, zb_some, a1, zb_some]
theorem gM_op {v : zS} {x op' : Nat} {L : List Int32} (h : gM B T t x L op v) : gM B T t x L op' (zuI v 73 26 (nI op')) := by
  obtain ⟨h1, h2, h3, h4, h5, h6, h7, h8, h9⟩ := h
  refine ⟨fr_uI h1, ?_, ?_, ?_, ?_, ?_, ?_, ?_, fun j hj => ?_⟩
  · rw [uI_at, if_neg (by omega)]; exact h2
  · exact yTb_c h3 (fun j => uI_off (by omega))
  · exact zLt_c h4 (fun a k z => uI_off (by omega))
  · exact yAM_c h5 (fun k _ _ => by rw [uI_at, if_neg (by omega)])
  · rw [uI_at, if_pos ⟨rfl, rfl⟩]
  · rw [uI_at, if_neg (by omega)]; exact h7
  · rw [uI_at, if_neg (by omega)]; exact h8
  · rw [uI_off (by omega)]; exact h9 j hj
theorem M_open {v : zS} {x : Nat} {L : List Int32} (hx : x ≤ T) (hk : ykx B T x ≠ 13) (hop : op < 5) (h : gM B T t x L op v) : ∃ v', F_M_opens v 73 = some (1, v') ∧ gM B T t (yex0 B T x) L (op + 1) v' ∧ yNs (yFM t) v v' := by
  have h1 := gM_op (op' := op + 1) h
  obtain ⟨v', a1, a2, a3⟩ := M_go hx hk h1
  refine ⟨v', ?_, a2, yNs_tr (yNs_w (yNs_rf h.1) (Or.inl ⟨rfl, by decide, by decide⟩)) a3⟩
  have h26 := h.2.2.2.2.2.1
  unfold F_M_opens
  rw [gI_73 h.1, zb_some, h26, if_neg (show ¬ nI op = 5 from fun z => by have : op = 5 := nI_inj (by omega) (by decide) z; omega), zb_some, show nI op + 1 = nI (op + 1) from nI_add op 1, pI_73 h.1, zb_some, fo_73 h1.1, zb_some, a1, zb_some]
theorem M_open5 {v : zS} {x : Nat} {L : List Int32} (h : gM B T t x L 5 v) : ∃ v', F_M_opens v 73 = some (0, v') ∧ wM t (yst0 B T x) L.length v' ∧ yNs (yFM t) v v' := by
  obtain ⟨v', a1, a2, a3⟩ := M_wro h
  refine ⟨v', ?_, a2, a3⟩
  have h26 : v.2.1 73 26 = 5 := h.2.2.2.2.2.1
  unfold F_M_opens
  rw [gI_73 h.1, zb_some, h26, if_pos rfl, fo_73 h.1, zb_some, a1, zb_some]
theorem wM_op {v : zS} {f c : Nat} {w : Int32} (h : wM t f c v) : wM t f c (zuI v 73 26 w) := by
  obtain ⟨h1, h2, h3, h4⟩ := h
  exact ⟨fr_uI h1, by rw [uI_at, if_neg (by omega)]; exact h2, by rw [uI_at, if_neg (by omega)]; exact h3, by rw [uI_at, if_neg (by omega)]; exact h4⟩
theorem J_one {n : Nat} (ht : t < 6) (hT : T ≤ 160) (hB : ∀ j, B j < 256) (hop : op ≤ 5) (hs0 : op < 5 → yJ B T t 0 (op + 1) n) (hs5 : op < 5 → yJ B T t 5 (op + 1) n) : yJ B T t 0 op (n + 1) := by
  intro x L hx hL
  have hst := yst_le (B := B) hx
  have hkl := ykx_256 (B := B) (T := T) (x := x) hB
  show yO B T t op 1 0 (5 * op + (5 - 0)) (fun v => F_Reader_readOne (GR n) v 71 (nI op)) (fun v => F_M_one (GM n) v 73) x L
  have b0 : b2 false = 0 := rfl
  have b1 : ¬ b2 true = 0 := by decide
  have m1 : ∀ {v}, gM B T t x L op v → v.2.1 73 27 = 0 := fun h => h.2.2.2.2.2.2.1
  have kne : ∀ {j : Nat}, j < 256 → ykx B T x ≠ j → ¬ nI (ykx B T x) = nI j := fun hj hne z => hne (nI_inj (by omega) (by omega) z)
  -- a number or a name: one act
  have push : ∀ a : Int32, ((-6 : Int32) ≤ a ∧ a ≤ 9999) → ykx B T x ≠ 13 → (∀ v v1 v2, gX B T t x L v → F_Text_add v (39 + 4 * t) (ztr a) = some v1 → zFr v1 → F_Reader_advance v1 71 = some v2 → F_Reader_readOne (GR n) v 71 (nI op) = some v2) → (∀ v v1 v2, gM B T t x L op v → F_M_lay v 73 a = some v1 → zFr v1 → F_M_next v1 73 = some v2 → F_M_one (GM n) v 73 = some v2) → yO B T t op 1 0 (5 * op + (5 - 0)) (fun v => F_Reader_readOne (GR n) v 71 (nI op)) (fun v => F_M_one (GM n) v 73) x L := by
    intro a ha hk hX hM
    have hlt := ykx_lt hx hk
    obtain ⟨g1, g2⟩ := ynx_ok hx hk
    refine Or.inl ⟨yex0 B T x, [a], g1, by omega, by show 1 + _ ≤ _; omega, fun d _ hd => by rw [zrun_push ha (by omega)]; rfl, fun v hv => ?_, fun v hv => ?_⟩
    · obtain ⟨v1, c1, c2, c3⟩ := X_add (a := a) ht (by omega) hv
      obtain ⟨v2, d1, d2, d3⟩ := X_go ht hx hk c2
      exact ⟨v2, hX v v1 v2 hv c1 c2.1 d1, d2, yNs_tr c3 d3⟩
    · obtain ⟨v1, c1, c2, c3⟩ := M_lay (a := a) ht (by omega) hv
      obtain ⟨v2, d1, d2, d3⟩ := M_go hx hk c2
      exact ⟨v2, hM v v1 v2 hv c1 c2.1 d1, d2, yNs_tr c3 d3⟩
  by_cases k12 : ykx B T x = 12
  · have h9 := yvx_9 hx k12
    obtain ⟨z1, z2, z3⟩ := ztr_n h9
    refine push (nI (yvx B T x)) ⟨z2, z3⟩ (by omega) (fun v v1 v2 hv c1 f1 d1 => ?_) (fun v v1 v2 hv c1 f1 d1 => ?_)
    · have h6 : v.2.1 71 6 = nI (yvx B T x) := hv.2.2.2.2.1.2.2.2 k12
      rw [z1] at c1
      unfold F_Reader_readOne
      rw [X_tok hv, zb_some, k12, if_pos (show nI 12 = 12 from rfl), gR_71_2 hv.1, zb_some, hv.2.1, gI_71 hv.1, zb_some, h6, fo_T hv.1 ht, zb_some, c1, zb_some, fo_71 f1, zb_some, d1, zb_some]
    · have h25 : v.2.1 73 25 = nI (yvx B T x) := by
        have := hv.2.2.2.2.1.2.2.2 (by show ykx B T x ≠ 13; omega) (by show ykx B T x ≠ 14; omega)
        rw [this]
        show nI (yMw (ykx B T x) _) = _
        rw [k12]; rfl
      unfold F_M_one
      rw [gI_73 hv.1, zb_some, m1 hv, if_pos rfl, M_tok hv, zb_some, k12, if_pos (show nI (yMt 12) = 1 from rfl), zb_some, if_pos (show nI (yMt 12) = 1 from rfl), gI_73 hv.1, zb_some, h25, fo_73 hv.1, zb_some, c1, zb_some, fo_73 f1, zb_some, d1, zb_some]
  by_cases k6 : ykx B T x < 6
  · obtain ⟨z1, z2, z3⟩ := ztr_m ⟨ykx B T x, k6⟩
    dsimp only at z1 z2 z3
    refine push ((-1 : Int32) - nI (ykx B T x)) ⟨z2, z3⟩ (by omega) (fun v v1 v2 hv c1 f1 d1 => ?_) (fun v v1 v2 hv c1 f1 d1 => ?_)
    · rw [← z1] at c1
      unfold F_Reader_readOne
      rw [X_tok hv, zb_some, if_neg (show ¬ nI (ykx B T x) = 12 from kne (j := 12) (by decide) (by omega)), zb_some, if_neg (nI_lt0 (by omega)), zb_some, if_neg (show ¬ (6 : Int32) ≤ nI (ykx B T x) by rw [show (6 : Int32) = nI 6 from rfl, nI_leI (by omega) (by omega)]; omega), gR_71_2 hv.1, zb_some, hv.2.1, zb_some, fo_T hv.1 ht, zb_some, c1, zb_some, fo_71 f1, zb_some, d1, zb_some]
    · have e2 : yMt (ykx B T x) = 2 := by unfold yMt; rw [if_pos k6]
      have h25 : v.2.1 73 25 = nI (ykx B T x) := by
        have := hv.2.2.2.2.1.2.2.2 (by show ykx B T x ≠ 13; omega) (by show ykx B T x ≠ 14; omega)
        rw [this]
        show nI (yMw (ykx B T x) _) = _
        unfold yMw
        rw [if_pos k6]
      unfold F_M_one
      rw [gI_73 hv.1, zb_some, m1 hv, if_pos rfl, M_tok hv, zb_some, e2, if_neg (show ¬ nI 2 = 1 by decide), zb_some, if_pos (show nI 2 = 2 from rfl), zb_some, if_neg (show ¬ nI 2 = 1 by decide), gI_73 hv.1, zb_some, h25, fo_73 hv.1, zb_some, c1, zb_some, fo_73 f1, zb_some, d1, zb_some]
  -- the class, past numbers and names
  have hX : ∀ v, gX B T t x L v → F_Reader_readOne (GR n) v 71 (nI op) = (if nI (ykx B T x) = 45 then ((F_Reader_opens v 71 (nI op)).bind <| zk fun v42 u43 => if v42 = 0 then (some u43) else ((zob u43 5 (some 71)).bind fun q47 => (GR n 0 u43 q47 (nI op + 1)).bind fun u46 => (zgR u46 5 (some 71) 2).bind fun v48 => (zob u46 7 v48).bind fun q51 => (F_Text_add u46 q51 20001).bind fun u50 => some u50)) else (if nI (ykx B T x) = 40 then ((F_Reader_opens v 71 (nI op)).bind <| zk fun v33 u34 => if v33 = 0 then (some u34) else ((zob u34 5 (some 71)).bind fun q38 => (GR n 5 u34 q38 (nI op + 1)).bind fun u37 => (zob u37 5 (some 71)).bind fun q41 => (F_Reader_expect u37 q41 41).bind fun u40 => some u40)) else ((F_Reader_refuse v 71).bind fun u31 => some u31))) := by
    intro v hv
    unfold F_Reader_readOne
    rw [X_tok hv, zb_some, if_neg (show ¬ nI (ykx B T x) = 12 from kne (j := 12) (by decide) k12), zb_some, if_neg (nI_lt0 (by omega)), zb_some, if_pos (show (6 : Int32) ≤ nI (ykx B T x) by rw [show (6 : Int32) = nI 6 from rfl, nI_leI (by omega) (by omega)]; omega), zb_some, zb_some, fo_71 hv.1, zb_some, zb_some, zb_some]
  have hM : ∀ v, gM B T t x L op v → F_M_one (GM n) v 73 = (if b2 (decide (ykx B T x = 45)) = 0 then (if b2 (decide (ykx B T x = 40)) = 0 then ((F_M_wrong v 73).bind fun u72 => some u72) else ((F_M_opens v 73).bind <| zk fun v47 u48 => if v47 = 0 then (some u48) else ((zob u48 9 (some 73)).bind fun q52 => (GM n 5 u48 q52 ).bind fun u51 => (zob u51 9 (some 73)).bind fun q54 => (F_M_isSign u51 q54 41).bind fun v53 => if v53 = 0 then ((zob u51 9 (some 73)).bind fun q62 => (F_M_wrong u51 q62 ).bind fun u61 => some u61) else ((zgI u51 9 (some 73) 26).bind fun v55 => (zpI u51 9 (some 73) 26 (v55 - 1)).bind fun u56 => (zob u56 9 (some 73)).bind fun q59 => (F_M_next u56 q59 ).bind fun u58 => some u58)))) else ((F_M_opens v 73).bind <| zk fun v21 u22 => if v21 = 0 then (some u22) else ((zob u22 9 (some 73)).bind fun q39 => (GM n 0 u22 q39 ).bind fun u38 => (zob u38 9 (some 73)).bind fun q42 => (F_M_lay u38 q42 (-100)).bind fun u41 => (zgI u41 9 (some 73) 26).bind fun v43 => (zpI u41 9 (some 73) 26 (v43 - 1)).bind fun u44 => some u44))) := by
    intro v hv
    have e1 : ¬ nI (yMt (ykx B T x)) = 1 ∧ ¬ nI (yMt (ykx B T x)) = 2 := by
      unfold yMt
      rw [if_neg k6]
      constructor <;> repeat (first | decide | split | omega)
    have s45 : F_M_isSign v 73 45 = some (b2 (decide (ykx B T x = 45))) := M_sign hB hv (b := 45) (by decide) (by decide)
    have s40 : F_M_isSign v 73 40 = some (b2 (decide (ykx B T x = 40))) := M_sign hB hv (b := 40) (by decide) (by decide)
    unfold F_M_one
    rw [gI_73 hv.1, zb_some, m1 hv, if_pos rfl, M_tok hv, zb_some, if_neg e1.1, zb_some, if_neg e1.2, fo_73 hv.1, zb_some, s45, zb_some]
    by_cases z : ykx B T x = 45
    · rw [decide_eq_true z, if_neg b1, if_neg b1, zb_some]
      simp only [if_neg b1]
    · rw [decide_eq_false z, if_pos b0, if_pos b0, zb_some, s40, zb_some, zb_some, zb_some]
      simp only [if_pos b0]
  by_cases k45 : ykx B T x = 45
  · have hk13 : ykx B T x ≠ 13 := by omega
    obtain ⟨g1, g2⟩ := ynx_ok hx hk13
    by_cases ho5 : op = 5
    · subst ho5
      refine Or.inr ⟨yst0 B T x, Nat.le_refl _, hst.2, fun v hv => ?_, fun v hv => ?_⟩
      · obtain ⟨v', a1, a2, a3⟩ := X_open5 ht (by omega) hv
        refine ⟨v', ?_, a2, a3⟩
        show F_Reader_readOne (GR n) v 71 (nI 5) = some v'
        rw [hX v hv, if_pos (show nI (ykx B T x) = 45 by rw [k45]; rfl), a1, zk_some, if_pos rfl]
      · obtain ⟨v', a1, a2, a3⟩ := M_open5 hv
        refine ⟨v', L.length, ?_, a2, Nat.le_refl _, a3⟩
        show F_M_one (GM n) v 73 = some v'
        rw [hM v hv, decide_eq_true k45, if_neg b1, a1, zk_some, if_pos rfl]
    · have ho : op < 5 := by omega
      have subX : ∀ v, gX B T t x L v → ∃ v1, gX B T t (yex0 B T x) L v1 ∧ yNs (yFX t) v v1 ∧ ∀ v2 v3, GR n 0 v1 71 (nI (op + 1)) = some v2 → zFr v2 → v2.2.2.2 71 2 = some (39 + 4 * t) → F_Text_add v2 (39 + 4 * t) 20001 = some v3 → F_Reader_readOne (GR n) v 71 (nI op) = some v3 := by
        intro v hv
        obtain ⟨v1, a1, a2, a3⟩ := X_open ht hx hk13 ho hv
        refine ⟨v1, a2, a3, fun v2 v3 c1 f2 c2 c3 => ?_⟩
        rw [hX v hv, if_pos (show nI (ykx B T x) = 45 by rw [k45]; rfl), a1, zk_some, if_neg (show ¬ (1 : Int32) = 0 by decide), fo_71 a2.1, zb_some, show nI op + 1 = nI (op + 1) from nI_add op 1, c1, zb_some, gR_71_2 f2, zb_some, c2, fo_T f2 ht, zb_some, c3, zb_some]
      have subM : ∀ v, gM B T t x L op v → ∃ v1, gM B T t (yex0 B T x) L (op + 1) v1 ∧ yNs (yFM t) v v1 ∧ ∀ v2 v3, GM n 0 v1 73 = some v2 → zFr v2 → F_M_lay v2 73 (-100) = some v3 → zFr v3 → F_M_one (GM n) v 73 = some (zuI v3 73 26 (v3.2.1 73 26 - 1)) := by
        intro v hv
        obtain ⟨v1, a1, a2, a3⟩ := M_open hx hk13 ho hv
        refine ⟨v1, a2, a3, fun v2 v3 c1 f2 c2 f3 => ?_⟩
        rw [hM v hv, decide_eq_true k45, if_neg b1, a1, zk_some, if_neg (show ¬ (1 : Int32) = 0 by decide), fo_73 a2.1, zb_some, c1, zb_some, fo_73 f2, zb_some, c2, zb_some, gI_73 f3, zb_some, pI_73 f3, zb_some]
      rcases hs0 ho (yex0 B T x) L g1 (by omega) with ⟨x2, N1, a1, a2, a3, a4, a5, a6⟩ | ⟨f, a1, a2, a3, a4⟩
      · have hst2 := yst_le (B := B) a1
        have happ : L ++ N1 ++ [(-100 : Int32)] = L ++ (N1 ++ [(-100 : Int32)]) := by simp
        refine Or.inl ⟨x2, N1 ++ [(-100 : Int32)], a1, by omega, by rw [List.length_append]; show N1.length + 1 + _ ≤ _; omega, fun d _ hd => ?_, fun v hv => ?_, fun v hv => ?_⟩
        · rw [zrun_app, a4 d (Nat.zero_le d) (by omega)]
          show zrun [(-100 : Int32)] (d + 1) = _
          rw [zrun_un (Or.inl rfl) (by omega)]; rfl
        · obtain ⟨v1, b1', b2', b3⟩ := subX v hv
          obtain ⟨v2, c1, c2, c3⟩ := a5 v1 b1'
          obtain ⟨v3, d1, d2, d3⟩ := X_add (a := (-100 : Int32)) ht (by rw [List.length_append]; omega) c2
          rw [happ] at d2
          exact ⟨v3, b3 v2 v3 c1 c2.1 c2.2.1 d1, d2, yNs_tr b2' (yNs_tr c3 d3)⟩
        · obtain ⟨v1, b1', b2', b3⟩ := subM v hv
          obtain ⟨v2, c1, c2, c3⟩ := a6 v1 b1'
          obtain ⟨v3, d1, d2, d3⟩ := M_lay (a := (-100 : Int32)) ht (by rw [List.length_append]; omega) c2
          have h26 : v3.2.1 73 26 - 1 = nI op := by rw [d2.2.2.2.2.2.1]; exact nI_pred op
          refine ⟨zuI v3 73 26 (nI op), by rw [← h26]; exact b3 v2 v3 c1 c2.1 d1 d2.1, ?_, yNs_w (yNs_tr b2' (yNs_tr c3 d3)) (Or.inl ⟨rfl, by decide, by decide⟩)⟩
          rw [← happ]
          exact gM_op d2
      · refine Or.inr ⟨f, by omega, a2, fun v hv => ?_, fun v hv => ?_⟩
        · obtain ⟨v1, b1', b2', b3⟩ := subX v hv
          obtain ⟨v2, c1, c2, c3⟩ := a3 v1 b1'
          obtain ⟨v3, d1, d2, d3⟩ := X_addw (a := (20001 : Int32)) ht c2
          exact ⟨v3, b3 v2 v3 c1 c2.1 c2.2.1 d1, d2, yNs_tr b2' (yNs_tr c3 d3)⟩
        · obtain ⟨v1, b1', b2', b3⟩ := subM v hv
          obtain ⟨v2, c, c1, c2, c3, c4⟩ := a4 v1 b1'
          obtain ⟨v3, d1, d2, d3⟩ := M_layw (a := (-100 : Int32)) ht (by omega) c2
          exact ⟨_, c + 1, b3 v2 v3 c1 c2.1 d1 d2.1, wM_op d2, by omega, yNs_w (yNs_tr b2' (yNs_tr c4 d3)) (Or.inl ⟨rfl, by decide, by decide⟩)⟩
  by_cases k40 : ykx B T x = 40
  · have hk13 : ykx B T x ≠ 13 := by omega
    have n45 : ¬ nI (ykx B T x) = 45 := kne (j := 45) (by decide) k45
    obtain ⟨g1, g2⟩ := ynx_ok hx hk13
    by_cases ho5 : op = 5
    · subst ho5
      refine Or.inr ⟨yst0 B T x, Nat.le_refl _, hst.2, fun v hv => ?_, fun v hv => ?_⟩
      · obtain ⟨v', a1, a2, a3⟩ := X_open5 ht (by omega) hv
        refine ⟨v', ?_, a2, a3⟩
        show F_Reader_readOne (GR n) v 71 (nI 5) = some v'
        rw [hX v hv, if_neg n45, if_pos (show nI (ykx B T x) = 40 by rw [k40]; rfl), a1, zk_some, if_pos rfl]
      · obtain ⟨v', a1, a2, a3⟩ := M_open5 hv
        refine ⟨v', L.length, ?_, a2, Nat.le_refl _, a3⟩
        show F_M_one (GM n) v 73 = some v'
        rw [hM v hv, decide_eq_false k45, if_pos b0, decide_eq_true k40, if_neg b1, a1, zk_some, if_pos rfl]
    · have ho : op < 5 := by omega
      have subX : ∀ v, gX B T t x L v → ∃ v1, gX B T t (yex0 B T x) L v1 ∧ yNs (yFX t) v v1 ∧ ∀ v2 v3, GR n 5 v1 71 (nI (op + 1)) = some v2 → zFr v2 → F_Reader_expect v2 71 41 = some v3 → F_Reader_readOne (GR n) v 71 (nI op) = some v3 := by
        intro v hv
        obtain ⟨v1, a1, a2, a3⟩ := X_open ht hx hk13 ho hv
        refine ⟨v1, a2, a3, fun v2 v3 c1 f2 c2 => ?_⟩
        rw [hX v hv, if_neg n45, if_pos (show nI (ykx B T x) = 40 by rw [k40]; rfl), a1, zk_some, if_neg (show ¬ (1 : Int32) = 0 by decide), fo_71 a2.1, zb_some, show nI op + 1 = nI (op + 1) from nI_add op 1, c1, zb_some, fo_71 f2, zb_some, c2, zb_some]
      have subM : ∀ v, gM B T t x L op v → ∃ v1, gM B T t (yex0 B T x) L (op + 1) v1 ∧ yNs (yFM t) v v1 ∧ (∀ v2 v3, GM n 5 v1 73 = some v2 → zFr v2 → F_M_isSign v2 73 41 = some (b2 false) → F_M_wrong v2 73 = some v3 → F_M_one (GM n) v 73 = some v3) ∧ ∀ v2 v3, GM n 5 v1 73 = some v2 → zFr v2 → F_M_isSign v2 73 41 = some (b2 true) → F_M_next (zuI v2 73 26 (v2.2.1 73 26 - 1)) 73 = some v3 → F_M_one (GM n) v 73 = some v3 := by
        intro v hv
        obtain ⟨v1, a1, a2, a3⟩ := M_open hx hk13 ho hv
        refine ⟨v1, a2, a3, fun v2 v3 c1 f2 c2 c3 => ?_, fun v2 v3 c1 f2 c2 c3 => ?_⟩
        · rw [hM v hv, decide_eq_false k45, if_pos b0, decide_eq_true k40, if_neg b1, a1, zk_some, if_neg (show ¬ (1 : Int32) = 0 by decide), fo_73 a2.1, zb_some, c1, zb_some, fo_73 f2, zb_some, c2, zb_some, if_pos b0, zb_some, c3, zb_some]
        · have f3 : zFr (zuI v2 73 26 (v2.2.1 73 26 - 1)) := fr_uI f2
          rw [hM v hv, decide_eq_false k45, if_pos b0, decide_eq_true k40, if_neg b1, a1, zk_some, if_neg (show ¬ (1 : Int32) = 0 by decide), fo_73 a2.1, zb_some, c1, zb_some, fo_73 f2, zb_some, c2, zb_some, if_neg b1, gI_73 f2, zb_some, pI_73 f2, zb_some, fo_73 f3, zb_some, c3, zb_some]
      rcases hs5 ho (yex0 B T x) L g1 (by omega) with ⟨x2, N1, a1, a2, a3, a4, a5, a6⟩ | ⟨f, a1, a2, a3, a4⟩
      · have hst2 := yst_le (B := B) a1
        have hl2 : (L ++ N1).length ≤ 160 := by rw [List.length_append]; omega
        by_cases k41 : ykx B T x2 = 41
        · have hk2 : ykx B T x2 ≠ 13 := by omega
          obtain ⟨q1, q2⟩ := ynx_ok a1 hk2
          refine Or.inl ⟨yex0 B T x2, N1, q1, by omega, by omega, fun d h0 hd => a4 d h0 (by omega), fun v hv => ?_, fun v hv => ?_⟩
          · obtain ⟨v1, b1', b2', b3⟩ := subX v hv
            obtain ⟨v2, c1, c2, c3⟩ := a5 v1 b1'
            obtain ⟨v3, d1, d2, d3⟩ := X_go ht a1 hk2 c2
            refine ⟨v3, b3 v2 v3 c1 c2.1 ?_, d2, yNs_tr b2' (yNs_tr c3 d3)⟩
            unfold F_Reader_expect
            rw [X_tok c2, zb_some, k41, if_pos (show nI 41 = 41 from rfl), fo_71 c2.1, zb_some, d1, zb_some]
          · obtain ⟨v1, b1', b2', -, b3⟩ := subM v hv
            obtain ⟨v2, c1, c2, c3⟩ := a6 v1 b1'
            have s41 : F_M_isSign v2 73 41 = some (b2 true) := by
              have := M_sign hB c2 (b := 41) (by decide) (by decide)
              rw [decide_eq_true k41] at this
              exact this
            have h26 : v2.2.1 73 26 - 1 = nI op := by rw [c2.2.2.2.2.2.1]; exact nI_pred op
            obtain ⟨v3, d1, d2, d3⟩ := M_go a1 hk2 (gM_op (op' := op) c2)
            refine ⟨v3, b3 v2 v3 c1 c2.1 s41 (by rw [h26]; exact d1), d2, yNs_tr b2' (yNs_tr c3 (yNs_tr (yNs_w (yNs_rf c2.1) (Or.inl ⟨rfl, by decide, by decide⟩)) d3))⟩
        · refine Or.inr ⟨yst0 B T x2, by omega, hst2.2, fun v hv => ?_, fun v hv => ?_⟩
          · obtain ⟨v1, b1', b2', b3⟩ := subX v hv
            obtain ⟨v2, c1, c2, c3⟩ := a5 v1 b1'
            obtain ⟨v3, d1, d2, d3⟩ := X_ref ht hl2 c2
            refine ⟨v3, b3 v2 v3 c1 c2.1 ?_, d2, yNs_tr b2' (yNs_tr c3 d3)⟩
            have hk2 := ykx_256 (B := B) (T := T) (x := x2) hB
            unfold F_Reader_expect
            rw [X_tok c2, zb_some, if_neg (show ¬ nI (ykx B T x2) = 41 from fun z => k41 (nI_inj (b := 41) (by omega) (by decide) z)), fo_71 c2.1, zb_some, d1, zb_some]
          · obtain ⟨v1, b1', b2', b3, -⟩ := subM v hv
            obtain ⟨v2, c1, c2, c3⟩ := a6 v1 b1'
            have s41 : F_M_isSign v2 73 41 = some (b2 false) := by
              have := M_sign hB c2 (b := 41) (by decide) (by decide)
              rw [decide_eq_false k41] at this
              exact this
            obtain ⟨v3, d1, d2, d3⟩ := M_wro c2
            refine ⟨v3, (L ++ N1).length, b3 v2 v3 c1 c2.1 s41 d1, d2, ?_, yNs_tr b2' (yNs_tr c3 d3)⟩
            rw [List.length_append]
            omega
      · refine Or.inr ⟨f, by omega, a2, fun v hv => ?_, fun v hv => ?_⟩
        · obtain ⟨v1, b1', b2', b3⟩ := subX v hv
          obtain ⟨v2, c1, c2, c3⟩ := a3 v1 b1'
          obtain ⟨v3, d1, d2, d3⟩ := X_refw ht (by omega) c2
          refine ⟨v3, b3 v2 v3 c1 c2.1 ?_, d2, yNs_tr b2' (yNs_tr c3 d3)⟩
          unfold F_Reader_expect
          rw [gI_71 c2.1, zb_some, c2.2.2.2.1, if_neg (show ¬ (13 : Int32) = 41 by decide), fo_71 c2.1, zb_some, d1, zb_some]
        · obtain ⟨v1, b1', b2', b3, -⟩ := subM v hv
          obtain ⟨v2, c, c1, c2, c3, c4⟩ := a4 v1 b1'
          exact ⟨v2, c, b3 v2 v2 c1 c2.1 (M_signw c2).1 (M_wrow c2), c2, by omega, yNs_tr b2' c4⟩
  · have n45 : ¬ nI (ykx B T x) = 45 := kne (j := 45) (by decide) k45
    have n40 : ¬ nI (ykx B T x) = 40 := kne (j := 40) (by decide) k40
    refine Or.inr ⟨yst0 B T x, Nat.le_refl _, hst.2, fun v hv => ?_, fun v hv => ?_⟩
    · obtain ⟨v', a1, a2, a3⟩ := X_ref ht (by omega) hv
      refine ⟨v', ?_, a2, a3⟩
      show F_Reader_readOne (GR n) v 71 (nI op) = some v'
      rw [hX v hv, if_neg n45, if_neg n40, a1, zb_some]
    · obtain ⟨v', a1, a2, a3⟩ := M_wro hv
      refine ⟨v', L.length, ?_, a2, Nat.le_refl _, a3⟩
      show F_M_one (GM n) v 73 = some v'
      rw [hM v hv, decide_eq_false k45, if_pos b0, decide_eq_false k40, if_pos b0, a1, zb_some]
end S
