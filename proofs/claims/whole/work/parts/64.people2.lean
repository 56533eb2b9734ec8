-- ===== people: the call =====
section S
variable {n p yr tx rl tp c : Nat} {μ : zS}
theorem K_people (h : zSt n p yr tx rl tp c μ) (a b a3 a4 : Int32) : zOk c (fun u => F_X_people u 0 a b a3 a4) (fun u => F_M_people u 73 a b a3 a4) μ := by
  obtain ⟨hf, hP, hPe, hAs, hTa, hBa, hYr, hTp, hTx, hIm, hSh, hLt⟩ := id h
  have n1 : ¬ nI 1 = 0 := by decide
  have e10 : ¬ (1 : Int32) = 0 := by decide
  have nn : ∀ {x : Int32} {m : Nat}, ¬ (nI 0 ≤ x ∧ x < nI (m + 1)) → m < 1000 → ¬ x < 0 → ¬ x ≤ nI m := by
    intro x m hx hm h0 h1
    refine hx ⟨Int32.not_lt.mp h0, ?_⟩
    rw [fa_le, nI_toInt (by omega)] at h1
    rw [fa_lt, nI_toInt (by omega)]
    omega
  rcases zcase a (n := 4) (by decide) with ⟨d, hd, rfl⟩ | ha
  · have ed := zc_lt hd (show 4 < 2 ^ 31 by decide)
    rcases zcase b (n := 3) (by decide) with ⟨s, hs, rfl⟩ | hb
    · have es := zc_lt hs (show 3 < 2 ^ 31 by decide)
      have s0 : ¬ nI s < 0 := nI_lt0 (by omega)
      have s2 : ¬ (2 : Int32) < nI s := by rw [show (2 : Int32) = nI 2 from rfl, nI_ltI (by omega) (by omega)]; omega
      rcases zcase a4 (n := 9) (by decide) with ⟨N, hN, rfl⟩ | h4
      · have eN := zc_lt hN (show 9 < 2 ^ 31 by decide)
        have N0 : ¬ nI N < 0 := nI_lt0 (by omega)
        have N8 : nI N ≤ (8 : Int32) := by rw [show (8 : Int32) = nI 8 from rfl, nI_leI (by omega) (by omega)]; omega
        obtain ⟨q1, q2, q3, q4, q5⟩ := hSh d hd
        obtain ⟨z, hz, hze, -⟩ := zRg_ex q4
        have mX : ∀ o, (μ.2.1 99 d = (-1) → o = some ((-11 : Int32), μ)) → (¬ μ.2.1 99 d = (-1) → ¬ μ.2.1 99 d = nI s → o = some ((-13 : Int32), μ)) → (¬ μ.2.1 99 d = (-1) → μ.2.1 99 d = nI s → (zfix4 (fun (r25 : zS → Int32 → Int32 → Int32 → Option (Int32 × zS)) (u26 : zS) (x27 : Int32) (x28 : Int32) (x29 : Int32) => if nI N ≤ x29 then (some (x27, u26)) else ((zob u26 6 (some (63 + 2 * d))).bind fun q31 => (F_Sheet_hasRun u26 q31 x28 2).bind fun v30 => if v30 = 0 then (some ((-12), u26)) else ((zgR u26 6 (some (63 + 2 * d)) 2).bind fun v32 => (zaI u26 .int v32 x28).bind fun v33 => (zgR u26 6 (some (63 + 2 * d)) 2).bind fun v34 => (zaI u26 .int v34 (x28 + 1)).bind fun v35 => (zob u26 8 (some 0)).bind fun q38 => (F_X_hire u26 q38 v33 v35).bind <| zk fun v36 u37 => if v36 < 0 then (r25 u37 x27 (x28 + 2) (x29 + 1)) else (r25 u37 (x27 + 1) (x28 + 2) (x29 + 1))))) zFU μ 0 a3 0) = o) → F_X_people μ 0 (nI d) (nI s) a3 (nI N) = o := by
          intro o o1 o2 o3
          unfold F_X_people F_Sheet_isMissing
          by_cases m1 : μ.2.1 99 d = (-1)
          · rw [o1 m1]
            simp only [X_isSheet, if_pos ed, if_neg n1, zb_some, if_neg s0, if_neg s2, if_neg N0, if_pos N8, gR_0_11 hf, aR_17 hf hd, fo_S hf hd, gI_S hf hd, q1, if_pos m1, if_neg e10]
          · by_cases m2 : μ.2.1 99 d = nI s
            · rw [← o3 m1 m2]
              simp only [X_isSheet, if_pos ed, if_neg n1, zb_some, if_neg s0, if_neg s2, if_neg N0, if_pos N8, gR_0_11 hf, aR_17 hf hd, fo_S hf hd, gI_S hf hd, q1, if_neg m1, if_pos m2, if_true]
            · rw [o2 m1 m2]
              simp only [X_isSheet, if_pos ed, if_neg n1, zb_some, if_neg s0, if_neg s2, if_neg N0, if_pos N8, gR_0_11 hf, aR_17 hf hd, fo_S hf hd, gI_S hf hd, q1, if_neg m1, if_neg m2, if_true]
        have mM : ∀ (u : zS) o, zFr u → u.2.1 99 d = μ.2.1 99 d → (μ.2.1 99 d = (-1) → o = some ((-11 : Int32), u)) → (¬ μ.2.1 99 d = (-1) → ¬ μ.2.1 99 d = nI s → o = some ((-13 : Int32), u)) → (¬ μ.2.1 99 d = (-1) → μ.2.1 99 d = nI s → (zfix3 (fun (r26 : zS → Int32 → Int32 → Option (Int32 × zS)) (u27 : zS) (x28 : Int32) (x29 : Int32) => if nI N ≤ x29 then (some (x28, u27)) else (if a3 < 0 then (some ((-12), u27)) else ((zgR u27 9 (some 73) 50).bind fun v30 => (zaI u27 .int v30 (nI d)).bind fun v31 => if a3 ≤ ((v31 - 2) - ((2 : Int32) * x29)) then (zlet (((((40 : Int32) * (nI d)) + a3) + ((2 : Int32) * x29)) : Int32) fun x32 => (zgR u27 9 (some 73) 51).bind fun v33 => (zaI u27 .int v33 x32).bind fun v34 => (zgR u27 9 (some 73) 51).bind fun v35 => (zaI u27 .int v35 (x32 + 1)).bind fun v36 => (zob u27 9 (some 73)).bind fun q39 => (F_M_person u27 q39 v34 v36).bind <| zk fun v37 u38 => if v37 < 0 then (r26 u38 (x28 + 0) (x29 + 1)) else (r26 u38 (x28 + 1) (x29 + 1))) else (some ((-12), u27))))) zFU u 0 0) = o) → F_M_people u 73 (nI d) (nI s) a3 (nI N) = o := by
          intro u o hu he o1 o2 o3
          unfold F_M_people
          have i2 := M_inL u (nI s) 2 (by decide) (z := 2) rfl
          have i8 := M_inL u (nI N) 8 (by decide) (z := 8) rfl
          rw [if_pos es] at i2
          rw [if_pos eN] at i8
          by_cases m1 : μ.2.1 99 d = (-1)
          · rw [o1 m1]
            simp only [M_isSheet, if_pos ed, i2, i8, if_neg n1, zb_some, gR_73_49 hu, aI_99 hu hd, he, m1, if_pos (show (-1 : Int32) < 0 by decide), if_neg (show ¬ (0 : Int32) ≤ (-1) by decide)]
          · have p1 : ¬ μ.2.1 99 d < 0 := by
              rcases q2 with q | q | q | q
              · exact absurd q m1
              · rw [q]; decide
              · rw [q]; decide
              · rw [q]; decide
            by_cases m2 : μ.2.1 99 d = nI s
            · rw [← o3 m1 m2]
              simp only [M_isSheet, if_pos ed, i2, i8, if_neg n1, zb_some, gR_73_49 hu, aI_99 hu hd, he, if_neg p1, if_pos m2, if_pos (Int32.not_lt.mp p1)]
            · rw [o2 m1 m2]
              simp only [M_isSheet, if_pos ed, i2, i8, if_neg n1, zb_some, gR_73_49 hu, aI_99 hu hd, he, if_neg p1, if_neg m2]
        by_cases m1 : μ.2.1 99 d = (-1)
        · exact zOk_same (v := -11) h (mX _ (fun _ => rfl) (fun q => absurd m1 q) (fun q => absurd m1 q)) (mM μ _ hf rfl (fun _ => rfl) (fun q => absurd m1 q) (fun q => absurd m1 q))
        by_cases m2 : μ.2.1 99 d = nI s
        · rcases Classical.em (a3 < 0) with g | g
          · by_cases hN0 : N = 0
            · subst hN0
              refine zOk_same (v := 0) h (mX _ (fun q => absurd q m1) (fun _ q => absurd m2 q) (fun _ _ => ?_)) (mM μ _ hf rfl (fun q => absurd q m1) (fun _ q => absurd m2 q) (fun _ _ => ?_))
              · exact fix4_t 0 (fun _ => μ) (fun _ => 0) (fun _ => a3) (fun _ => 0) (fun _ i hi => absurd hi (by omega)) (fun r => by rw [if_pos (show nI 0 ≤ 0 by decide)]) (zFU_lt (by omega))
              · exact fix3_t 0 (fun _ => μ) (fun _ => 0) (fun _ => 0) (fun _ i hi => absurd hi (by omega)) (fun r => by rw [if_pos (show nI 0 ≤ 0 by decide)]) (zFU_lt (by omega))
            · have hn0 : ¬ nI N ≤ 0 := by rw [show (0 : Int32) = nI 0 from rfl, nI_leI (by omega) (by omega)]; omega
              refine zOk_same (v := -12) h (mX _ (fun q => absurd q m1) (fun _ q => absurd m2 q) (fun _ _ => ?_)) (mM μ _ hf rfl (fun q => absurd q m1) (fun _ q => absurd m2 q) (fun _ _ => ?_))
              · refine fix4_t 0 (fun _ => μ) (fun _ => 0) (fun _ => a3) (fun _ => 0) (fun _ i hi => absurd hi (by omega)) (fun r => ?_) (zFU_lt (by omega))
                rw [if_neg hn0, fo_S hf hd, zb_some, (X_hasRun hf hd (q3.trans hze) hz).2 (fun q => ((zrn_iff hz).mp q).1 g), zb_some, if_pos rfl]
              · refine fix3_t 0 (fun _ => μ) (fun _ => 0) (fun _ => 0) (fun _ i hi => absurd hi (by omega)) (fun r => ?_) (zFU_lt (by omega))
                rw [if_neg hn0, if_pos g]
          · obtain ⟨f, hf31, rfl⟩ := nI_of g
            have hX := X_people_loop (kk := fun i => μ.2.1 (64 + 2 * d) (f + 2 * i)) (rr := fun i => μ.2.1 (64 + 2 * d) (f + 2 * i + 1)) (N := N) h hd (q3.trans hze) hz (by omega) hf31 rfl (fun _ _ => rfl) (fun _ _ => rfl)
            generalize hmm : min N ((z - f) / 2) = m at hX
            have hmz : m ≤ (z - f) / 2 := by rw [← hmm]; exact Nat.min_le_right _ _
            generalize hkk : (fun i => μ.2.1 (64 + 2 * d) (f + 2 * i)) = kk at hX
            generalize hrr : (fun i => μ.2.1 (64 + 2 * d) (f + 2 * i + 1)) = rr at hX
            have gX := zmX_ok (n := n) (kk := kk) (rr := rr) hf hPe.2.1 m
            have ag : ∀ a k, 39 ≤ a → (zmX n p kk rr μ m).2.1 a k = μ.2.1 a k := fun a k ha => gX.2.2 a k (Or.inr ha) hPe.1
            have hM := M_people_loop (μ := zmX n p kk rr μ m) (n := n) (p := p) (kk := kk) (rr := rr) (d := d) (f := f) (z := z) (N := N) (m := m) gX.1 ((ag 73 1 (by omega)).trans hP.2.2.1) hP.1 ((ag 73 4 (by omega)).trans hPe.2.2.1) hPe.1 hd ((ag 100 d (by omega)).trans hze) hz (by omega) hf31 hmm.symm
              (fun i hi => by rw [ag 101 _ (by omega), ← hkk, Nat.add_assoc (40 * d)]; exact q5 _ (by omega))
              (fun i hi => by rw [ag 101 _ (by omega), ← hrr, show 40 * d + f + 2 * i + 1 = 40 * d + (f + 2 * i + 1) by omega]; exact q5 _ (by omega))
            refine ⟨_, _, _, mX _ (fun q => absurd q m1) (fun _ q => absurd m2 q) (fun _ _ => hX), gX.1, mM _ _ gX.1 (ag 99 d (by omega)) (fun q => absurd q m1) (fun _ q => absurd m2 q) (fun _ _ => hM), n, zpp n p kk rr m, yr, tx, rl, tp, zSt_m (zmXM_st h m)⟩
        · exact zOk_same (v := -13) h (mX _ (fun q => absurd q m1) (fun _ _ => rfl) (fun _ q => absurd q m2)) (mM μ _ hf rfl (fun q => absurd q m1) (fun _ _ => rfl) (fun _ q => absurd q m2))
      · refine zOk_same (v := -2) h ?_ ?_
        · unfold F_X_people
          rw [X_isSheet, if_pos ed, zb_some, if_neg n1, if_neg s0, if_neg s2]
          by_cases q : a4 < 0
          · rw [if_pos q]
          · rw [if_neg q, if_neg (show ¬ a4 ≤ (8 : Int32) from nn (m := 8) h4 (by decide) q)]
        · unfold F_M_people
          rw [M_isSheet, if_pos ed, zb_some, if_neg n1, M_inL μ (nI s) 2 (by decide) (z := 2) rfl, if_pos es, zb_some, if_neg n1, M_inL μ a4 8 (by decide) (z := 8) rfl, if_neg h4]; rfl
    · refine zOk_same (v := -2) h ?_ ?_
      · unfold F_X_people
        rw [X_isSheet, if_pos ed, zb_some, if_neg n1]
        by_cases q : b < 0
        · rw [if_pos q]
        · rw [if_neg q, if_pos (show (2 : Int32) < b from Int32.not_le.mp (nn (m := 2) hb (by decide) q))]
      · unfold F_M_people
        rw [M_isSheet, if_pos ed, zb_some, if_neg n1, M_inL μ b 2 (by decide) (z := 2) rfl, if_neg hb]; rfl
  · refine zOk_same (v := -2) h ?_ ?_
    · unfold F_X_people
      rw [X_isSheet, if_neg ha]; rfl
    · unfold F_M_people
      rw [M_isSheet, if_neg ha]; rfl
end S
