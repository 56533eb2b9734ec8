-- ===== worst, lack =====
theorem X_flag (u : zS) (x : Int32) : F_X_isFlag u x = some (if nI 0 ≤ x ∧ x < nI 2 then nI 1 else nI 0) := by
  unfold F_X_isFlag
  by_cases h0 : x = 0
  · subst h0
    rw [if_pos rfl, if_pos (by decide)]; rfl
  · rw [if_neg h0]
    by_cases h1 : x = 1
    · subst h1
      rw [if_pos rfl, if_pos (by decide)]; rfl
    · rw [if_neg h1, if_neg]
      · rfl
      · rintro ⟨z1, z2⟩
        obtain ⟨j, hj, rfl⟩ := (zcase x (n := 2) (by decide)).resolve_right (fun y => y ⟨z1, z2⟩)
        rcases (show j = 0 ∨ j = 1 by omega) with rfl | rfl
        · exact h0 rfl
        · exact h1 rfl
/-- the poorest filling so far -/
def yLa (D : Nat → Int) (many : Nat) : Nat → Int32 × Int32
  | 0 => (-1, 0)
  | i + 1 => if ypc i = many ∧ 0 ≤ D i ∧ ((yLa D many i).1 = (-1) ∨ yI (D i) < (yLa D many i).2) then (nI i, yI (D i)) else yLa D many i
theorem yLa_s (D : Nat → Int) (many i : Nat) : yLa D many (i + 1) = if ypc i = many ∧ 0 ≤ D i ∧ ((yLa D many i).1 = (-1) ∨ yI (D i) < (yLa D many i).2) then (nI i, yI (D i)) else yLa D many i := rfl
theorem yLa_ok (D : Nat → Int) (many : Nat) : ∀ i, i < 1000 → (yLa D many i).1 = (-1) ∨ ¬ (yLa D many i).1 < 0
  | 0, _ => Or.inl rfl
  | i + 1, hi => by
    have ih := yLa_ok D many i (by omega)
    rw [yLa_s]
    split
    · exact Or.inr (nI_lt0 (by omega))
    · exact ih
section S
variable {n p yr tx rl tp c : Nat} {μ : zS}
theorem yall_xor {U : Nat} (hp7 : p ≤ 7) (hU : U < 2 ^ p) : (2 ^ p - 1) ^^^ zmi (2 ^ p - 1) U = U := by
  have := p2_le hp7
  have := p2_pos p
  apply Nat.eq_of_testBit_eq
  intro j
  rw [Nat.testBit_xor, tb_mi (by omega), tb_all]
  by_cases hj : j < p
  · rw [decide_eq_true hj]
    cases U.testBit j <;> rfl
  · rw [decide_eq_false hj, tb_lt hU (by omega)]; rfl
theorem X_lackL (h : zSt n p yr tx rl tp c μ) {many : Nat} (hm : many ≤ 7) : ∃ u, F_X_poorestThatFills μ 0 (nI many) = some ((yLa (fun U => yD (zCan μ.2.1) (yG μ.2.1 rl) n p (yMu μ.2.1) n (fun w => !U.testBit w)) many (2 ^ p)).1, u) ∧ yNs yBP μ u := by
  have hn6 := h.2.1.1
  have hp7 := h.2.2.1.1
  have h2p := p2_le hp7
  have h2q := p2_pos p
  have hg := yG_le μ.2.1 rl
  obtain ⟨u1, a1, a2, a3⟩ := X_gains h (T := 2 ^ p - 1) (by omega)
  obtain ⟨u2, b1, b2, b3⟩ := X_reckon (m := many) hg a2.1 a3 hm
  have hbp : yNs yBP μ u2 := yNs_tr (yNs_mo a2 (fun a k z => by unfold yBX at z; unfold yBP; omega)) (yNs_mo b2 (fun a k z => by unfold yB11 at z; unfold yBP; omega))
  have a02 : u1.2.1 0 2 = nI p := (a2.2.2.2 0 2 (by unfold yBX; omega)).trans h.2.2.1.2.1
  have b02 : u2.2.1 0 2 = nI p := (b2.2.2.2 0 2 (by unfold yB11; omega)).trans a02
  refine ⟨u2, ?_, hbp⟩
  generalize hD : (fun U : Nat => yD (zCan μ.2.1) (yG μ.2.1 rl) n p (yMu μ.2.1) n (fun w => !U.testBit w)) = D
  have hDe : ∀ U : Nat, D U = yD (zCan μ.2.1) (yG μ.2.1 rl) n p (yMu μ.2.1) n (fun w => !U.testBit w) := fun U => by rw [← hD]
  have hDl : ∀ U, D U < 2 ^ 31 := fun U => by rw [hDe]; exact yDlt hg hn6 n (Nat.le_refl n) _
  unfold F_X_poorestThatFills
  rw [fo_0 h.1, zb_some, X_every h.1 h.2.2.1.2.1 hp7, zb_some, zb_some, a1, zb_some, gR_0_9 a2.1, zb_some, fo_0 a2.1, zb_some, X_every a2.1 a02 hp7, zb_some, fo_9 a2.1, zb_some, b1, zb_some]
  simp only [fo_0 b2.1, zb_some, X_every b2.1 b02 hp7, gR_0_9 b2.1, gR_9_3 b2.1]
  refine fix3_t (2 ^ p) (fun i => (yLa D many i).1) (fun i => (yLa D many i).2) (fun i => nI i) ?_ ?_ (zFU_lt (by omega))
  · intro r i hi
    have hpl := ypc_le i
    have hx := yall_xor hp7 hi
    rw [if_neg (show ¬ nI (2 ^ p - 1) < nI i by rw [nI_ltI (by omega) (by omega)]; omega), X_bits (by omega), zb_some, show nI i + 1 = nI (i + 1) from nI_add i 1, yLa_s]
    by_cases hc : ypc i = many
    · have hfr : yfr (2 ^ p - 1) many 0 (zmi (2 ^ p - 1) i) := by
        refine ⟨zmi_lt (by omega), ?_, by rw [hx]; omega⟩
        rw [zmi_0 (zmi_lt (by omega))]
        intro j hj
        rw [tb_mi (by omega), Bool.and_eq_true] at hj
        exact hj.1
      have hcell := b3 0 (Nat.zero_le n) _ hfr
      rw [Nat.mul_zero, Nat.zero_add, Nat.sub_zero, yD_cg n _ _ (yall_free (U := i) hp7), ← hDe] at hcell
      have hzl := hfr.1
      rw [if_pos (show nI (ypc i) = nI many by rw [hc]), nI_mi (by omega) (by omega), aI_11 b2.1 (by omega), zb_some, hcell]
      by_cases hd : D i < 0
      · rw [if_pos ((yI_1 (hDl i)).mpr hd), if_neg (fun z => by have := z.2.1; omega)]
      · rw [if_neg (fun z => hd ((yI_1 (hDl i)).mp z))]
        by_cases z1 : (yLa D many i).1 = (-1)
        · rw [if_pos z1, if_pos ⟨hc, by omega, Or.inl z1⟩]
        · rw [if_neg z1]
          by_cases z2 : (yLa D many i).2 ≤ yI (D i)
          · rw [if_pos z2, if_neg (fun z => z.2.2.elim z1 (fun y => absurd z2 (Int32.not_le.mpr y)))]
          · rw [if_neg z2, if_pos ⟨hc, by omega, Or.inr (Int32.not_le.mp z2)⟩]
    · rw [if_neg (show ¬ nI (ypc i) = nI many from fun z => hc (nI_inj (by omega) (by omega) z)), if_neg (fun z => hc z.1)]
  · intro r
    rw [if_pos (show nI (2 ^ p - 1) < nI (2 ^ p) from nI_lt (by omega) (by omega))]
theorem M_lackL {C : Nat → Nat → Bool} {g : Nat → Nat → Nat} {mu : Nat → Bool} {u : zS} {many : Nat} (hg : ∀ w q, g w q ≤ 9801) (hf : zFr u) (hm : yFm C mu n p u.2.1) (hgm : yFg g n p u.2.1) (hmany : many ≤ 7) :
    ∃ u', (zfix4 (fun (r9 : zS → Int32 → Int32 → Int32 → Option (Int32 × zS)) (u10 : zS) (x11 : Int32) (x12 : Int32) (x13 : Int32) => (zgI u10 9 (some 73) 4).bind fun v14 => if ((1 : Int32) <<< (v14 &&& 31)) ≤ x13 then (some (x11, u10)) else ((F_M_bitsOf u10 x13).bind fun v15 => if v15 = nI many then ((zob u10 9 (some 73)).bind fun q18 => (F_M_findBest u10 q18 x13).bind <| zk fun v16 u17 => if v16 = 0 then (r9 u17 x11 x12 (x13 + 1)) else (if x11 < 0 then ((zgI u17 9 (some 73) 36).bind fun v19 => r9 u17 x13 v19 (x13 + 1)) else ((zgI u17 9 (some 73) 36).bind fun v20 => if x12 ≤ v20 then (r9 u17 x11 x12 (x13 + 1)) else ((zgI u17 9 (some 73) 36).bind fun v21 => r9 u17 x13 v21 (x13 + 1))))) else (r9 u10 x11 x12 (x13 + 1)))) zFU u (-1) 0 0) = some ((yLa (fun U => yD C g n p mu n (fun w => !U.testBit w)) many (2 ^ p)).1, u') ∧ yNs yBM u u' := by
  have hn6 := hm.1
  have hp7 := hm.2.1
  have h2p := p2_le hp7
  have h2q := p2_pos p
  generalize hD : (fun U : Nat => yD C g n p mu n (fun w => !U.testBit w)) = D
  have hDe : ∀ U : Nat, D U = yD C g n p mu n (fun w => !U.testBit w) := fun U => by rw [← hD]
  have hst : ∀ {v}, yNs yBM u v → (∀ k, v.2.1 91 k = u.2.1 91 k) → (∀ k, v.2.1 92 k = u.2.1 92 k) → yFm C mu n p v.2.1 ∧ yFg g n p v.2.1 := by
    intro v hv h91 h92
    exact ⟨yFm_c hm (hv.2.2.2 _ _ (by unfold yBM; omega)) (hv.2.2.2 _ _ (by unfold yBM; omega)) (fun k => hv.2.2.2 _ _ (by unfold yBM; omega)) h91, fun w hw q hq => (h92 _).trans (hgm w hw q hq)⟩
  refine fix4_p (2 ^ p) (fun i v x y z => (yNs yBM u v ∧ (∀ k, v.2.1 91 k = u.2.1 91 k) ∧ ∀ k, v.2.1 92 k = u.2.1 92 k) ∧ x = (yLa D many i).1 ∧ y = (yLa D many i).2 ∧ z = nI i) (fun o => ∃ u', o = some ((yLa D many (2 ^ p)).1, u') ∧ yNs yBM u u') ?_ ?_ (zFU_lt (by omega)) ⟨⟨yNs_rf hf, fun _ => rfl, fun _ => rfl⟩, rfl, rfl, rfl⟩
  · rintro r i v x y z hi ⟨⟨hv, h91, h92⟩, rfl, rfl, rfl⟩
    obtain ⟨hmv, hgv⟩ := hst hv h91 h92
    have hpl := ypc_le i
    have ok := yLa_ok D many i (by omega)
    left
    rw [gI_73 hv.1, zb_some, hmv.2.2.2.1, n_shl1 (by omega), if_neg (show ¬ nI (2 ^ p) ≤ nI i by rw [nI_leI (by omega) (by omega)]; omega), M_bits (by omega), zb_some, show nI i + 1 = nI (i + 1) from nI_add i 1]
    by_cases hc : ypc i = many
    · obtain ⟨u2, r1, r2, r3⟩ := M_fb hg hv.1 hmv hgv hi
      rw [← hDe] at r1 r3
      have h3 : yNs yBM u u2 := yNs_tr hv (yNs_mo r2 (fun a k z => by unfold yBM; omega))
      have h391 : ∀ k, u2.2.1 91 k = u.2.1 91 k := fun k => (r2.2.2.2 91 k (by omega)).trans (h91 k)
      have h392 : ∀ k, u2.2.1 92 k = u.2.1 92 k := fun k => (r2.2.2.2 92 k (by omega)).trans (h92 k)
      rw [if_pos (show nI (ypc i) = nI many by rw [hc]), fo_73 hv.1, zb_some, r1, zk_some]
      by_cases hd : 0 ≤ D i
      · rw [decide_eq_true hd, if_neg (show ¬ b2 true = 0 by decide), gI_73 r2.1, zb_some, zb_some, (r3 hd).1]
        rcases ok with z1 | z1
        · have e1 : yLa D many (i + 1) = (nI i, yI (D i)) := by rw [yLa_s, if_pos ⟨hc, hd, Or.inl z1⟩]
          rw [if_pos (show (yLa D many i).1 < 0 by rw [z1]; decide)]
          exact ⟨u2, nI i, yI (D i), nI (i + 1), ⟨⟨h3, h391, h392⟩, by rw [e1], by rw [e1], rfl⟩, rfl⟩
        · rw [if_neg z1]
          by_cases z2 : (yLa D many i).2 ≤ yI (D i)
          · have e1 : yLa D many (i + 1) = yLa D many i := by
              rw [yLa_s, if_neg]
              rintro ⟨-, -, z | z⟩
              · rw [z] at z1; exact z1 (by decide)
              · exact absurd z2 (Int32.not_le.mpr z)
            rw [if_pos z2]
            exact ⟨u2, _, _, nI (i + 1), ⟨⟨h3, h391, h392⟩, by rw [e1], by rw [e1], rfl⟩, rfl⟩
          · have e1 : yLa D many (i + 1) = (nI i, yI (D i)) := by rw [yLa_s, if_pos ⟨hc, hd, Or.inr (Int32.not_le.mp z2)⟩]
            rw [if_neg z2]
            exact ⟨u2, nI i, yI (D i), nI (i + 1), ⟨⟨h3, h391, h392⟩, by rw [e1], by rw [e1], rfl⟩, rfl⟩
      · have e1 : yLa D many (i + 1) = yLa D many i := by rw [yLa_s, if_neg (fun z => hd z.2.1)]
        rw [decide_eq_false hd, if_pos (show b2 false = 0 from rfl)]
        exact ⟨u2, _, _, nI (i + 1), ⟨⟨h3, h391, h392⟩, by rw [e1], by rw [e1], rfl⟩, rfl⟩
    · have e1 : yLa D many (i + 1) = yLa D many i := by rw [yLa_s, if_neg (fun z => hc z.1)]
      rw [if_neg (show ¬ nI (ypc i) = nI many from fun z => hc (nI_inj (by omega) (by omega) z))]
      exact ⟨v, _, _, nI (i + 1), ⟨⟨hv, h91, h92⟩, by rw [e1], by rw [e1], rfl⟩, rfl⟩
  · rintro r v x y z ⟨⟨hv, h91, h92⟩, rfl, rfl, rfl⟩
    obtain ⟨hmv, hgv⟩ := hst hv h91 h92
    refine ⟨v, ?_, hv⟩
    rw [gI_73 hv.1, zb_some, hmv.2.2.2.1, n_shl1 (by omega), if_pos (Int32.le_refl _)]
theorem K_worst (h : zSt n p yr tx rl tp c μ) (a b : Int32) : zOk c (fun u => F_X_worst u 0 a b) (fun u => F_M_worst u 73 a b) μ := by
  obtain ⟨hf, hP, hPe, hAs, hTa, hBa, hYr, hTp, hTx, hIm, hSh, hLt⟩ := id h
  have hn6 := hP.1
  have hp7 := hPe.1
  have n1 : ¬ nI 1 = 0 := by decide
  have n0 : nI 0 = 0 := rfl
  have h2p := p2_le hp7
  rcases zcase a (n := 8) (by decide) with ⟨many, hm, rfl⟩ | ha
  · have ea := zc_lt hm (show 8 < 2 ^ 31 by decide)
    have q0 : ¬ nI many < 0 := nI_lt0 (by omega)
    have q7 : ¬ (7 : Int32) < nI many := by rw [show (7 : Int32) = nI 7 from rfl, nI_ltI (by omega) (by omega)]; omega
    rcases zcase b (n := 2) (by decide) with ⟨what, hw, rfl⟩ | hb
    · have eb := zc_lt hw (show 2 < 2 ^ 31 by decide)
      have iM : ∀ u, F_M_in u (nI many).toInt64 0 7 = some (nI 1) := fun u => by rw [M_inL u (nI many) 7 (by decide) (z := 7) rfl, if_pos ea]
      have iM2 : ∀ u, F_M_in u (nI what).toInt64 0 1 = some (nI 1) := fun u => by rw [M_inL u (nI what) 1 (by decide) (z := 1) rfl, if_pos eb]
      rcases (show what = 0 ∨ what = 1 by omega) with rfl | rfl
      · obtain ⟨u, x1, x2, x3, -⟩ := X_look h
        have x3' := x3
        obtain ⟨-, -, ⟨mb, m1, m2, m3⟩, -⟩ := x3'
        have h1 := zSt_ag h (yBC_ag (tx := tx) x2)
        have hd := yBC_dt x2
        obtain ⟨u1, y1, y2, y3⟩ := M_fc h1
        have hd1 : zDt u.2.1 u1.2.1 := yNs_dt y2 (fun a k x => by omega)
        have hmf := yFm_of h1 hd1 y3
        rw [zCan_f hd, yMu_c hd] at hmf
        obtain ⟨u2, w1, w2⟩ := M_worst (many := many) y2.1 hmf (by omega)
        have hag2 : zAg tx u u2 := zAg_tr (yNs_ag y2 (fun a k x y => by unfold zess at y; omega)) (yBW_ag w2)
        have hb := X_break (many := many) x2.1 h1.2.2.1.2.1 x3 m1 m2 m3 (by omega)
        refine zOk_ag h (v := yfv (yPw (zCan μ.2.1) (yMu μ.2.1) n p many) (2 ^ p)) (μ1 := u) (μ2 := u2) ?_ (yBC_ag x2) ?_ hag2
        · have hfb : F_X_firstThatBreaks μ 0 (nI many) = some (yfv (yPw (zCan μ.2.1) (yMu μ.2.1) n p many) (2 ^ p), u) := by
            unfold F_X_firstThatBreaks
            rw [fo_0 hf, zb_some, x1, zb_some]
            exact hb
          unfold F_X_worst
          rw [if_neg q0, if_neg q7, X_flag, if_pos eb, zb_some, if_neg n1, if_pos n0, fo_0 hf, zb_some, hfb, zk_some]
        · unfold F_M_worst
          rw [iM u, zb_some, if_neg n1, iM2 u, zb_some, if_neg n1, fo_73 h1.1, zb_some, y1, zb_some, if_pos n0, fo_73 y2.1, zb_some, w1, zk_some]
      · obtain ⟨u, x1, x2⟩ := X_lackL h (many := many) (by omega)
        have hag : zAg tx μ u := yNs_ag x2 (fun a k x y => by unfold zess at y; unfold yBP at x; omega)
        have h1 := zSt_ag h hag
        have hd : zDt μ.2.1 u.2.1 := yNs_dt x2 (fun a k x => by unfold yBP at x; omega)
        obtain ⟨u1, y1, y2, y3⟩ := M_fc h1
        have hd1 : zDt u.2.1 u1.2.1 := yNs_dt y2 (fun a k x => by omega)
        have h2 := zSt_ag h1 (yNs_ag (tx := tx) y2 (fun a k x y => by unfold zess at y; omega))
        obtain ⟨u2, b1, b2', b3⟩ := M_fg h2
        rw [yG_f hd1, yG_f hd] at b3
        have hd2 : zDt u.2.1 u2.2.1 := fun a k z => by rw [b2'.2.2.2 a k (by omega), hd1 a k z]
        have hmf := yFm_of h1 hd2 (fun w hw => by rw [b2'.2.2.2 91 w (by omega)]; exact y3 w hw)
        rw [zCan_f hd, yMu_c hd] at hmf
        obtain ⟨u3, c1, c2⟩ := M_lackL (many := many) (yG_le μ.2.1 rl) b2'.1 hmf b3 (by omega)
        have hag2 : zAg tx u u3 := zAg_tr (zAg_tr (yNs_ag y2 (fun a k x y => by unfold zess at y; omega)) (yNs_ag b2' (fun a k x y => by unfold zess at y; omega))) (yNs_ag c2 (fun a k x y => by unfold zess at y; unfold yBM at x; omega))
        refine zOk_ag h (v := (yLa (fun U => yD (zCan μ.2.1) (yG μ.2.1 rl) n p (yMu μ.2.1) n (fun w => !U.testBit w)) many (2 ^ p)).1) (μ1 := u) (μ2 := u3) ?_ hag ?_ hag2
        · unfold F_X_worst
          rw [if_neg q0, if_neg q7, X_flag, if_pos eb, zb_some, if_neg n1, if_neg n1, fo_0 hf, zb_some, x1, zk_some]
        · unfold F_M_worst
          rw [iM u, zb_some, if_neg n1, iM2 u, zb_some, if_neg n1, fo_73 h1.1, zb_some, y1, zb_some, if_neg n1, fo_73 y2.1, zb_some, b1, zb_some]
          exact c1
    · refine zOk_same (v := -2) h ?_ ?_
      · unfold F_X_worst
        rw [if_neg q0, if_neg q7, X_flag, if_neg hb, zb_some, if_pos n0]
      · unfold F_M_worst
        rw [M_inL μ (nI many) 7 (by decide) (z := 7) rfl, if_pos ea, zb_some, if_neg n1, M_inL μ b 1 (by decide) (z := 1) rfl, if_neg hb, zb_some, if_pos n0]
  · refine zOk_same (v := -2) h ?_ ?_
    · unfold F_X_worst
      by_cases q : a < 0
      · rw [if_pos q]
      · rw [if_neg q, if_pos]
        refine Int32.not_le.mp (fun z => ha ⟨Int32.not_lt.mp q, ?_⟩)
        rw [fa_le, show (7 : Int32).toInt = 7 by decide] at z
        rw [fa_lt, nI_toInt (by decide)]
        omega
    · unfold F_M_worst
      rw [M_inL μ a 7 (by decide) (z := 7) rfl, if_neg ha, zb_some, if_pos n0]
end S
