-- ===== judge =====
theorem zstop (P : Nat → Prop) (n : Nat) : ∃ m, m ≤ n ∧ (∀ i, i < m → ¬ P i) ∧ (m = n ∨ P m) := by
  induction n with
  | zero => exact ⟨0, Nat.le_refl 0, fun i hi => absurd hi (Nat.not_lt_zero i), Or.inl rfl⟩
  | succ n ih =>
    obtain ⟨m, h1, h2, h3⟩ := ih
    rcases h3 with h3 | h3
    · rcases Classical.em (P n) with h4 | h4
      · exact ⟨m, by omega, h2, Or.inr (by rw [h3]; exact h4)⟩
      · refine ⟨n + 1, Nat.le_refl _, fun i hi => ?_, Or.inl rfl⟩
        by_cases hin : i = n
        · rw [hin]; exact h4
        · exact h2 i (by omega)
    · exact ⟨m, by omega, h2, Or.inr h3⟩
/-- who stood at posts ahead, or was away -/
def zju (e : Nat → Nat → Int32) (d U0 : Nat) : Nat → Nat
  | 0 => U0
  | j + 1 => if e 101 (40 * d + j) = (-1) then zju e d U0 j else zju e d U0 j ||| 2 ^ (e 101 (40 * d + j)).toNatClampNeg
/-- what is wrong at a post -/
def zwr (e : Nat → Nat → Int32) (p q : Nat) (who : Int32) (U : Nat) : Int32 := if who = (-1) then (if e 74 q = 0 then (-1) else (30 : Int32) + nI q) else if ¬ (nI 0 ≤ who ∧ who < nI p) then (10 : Int32) + nI q else if U.testBit who.toNatClampNeg = true then (10 : Int32) + nI q else if zCan e who.toNatClampNeg q = false then (20 : Int32) + nI q else (-1)
theorem znq : ∀ q : Fin 6, ¬ (10 : Int32) + nI q.1 = (-1) ∧ ¬ (20 : Int32) + nI q.1 = (-1) ∧ ¬ (30 : Int32) + nI q.1 = (-1) := by decide +kernel
section S
variable {n p yr tx rl tp c : Nat} {μ : zS}
theorem X_wrong {q U F : Nat} {who : Int32} (h : zSt n p yr tx rl tp c μ) (hq : q < n) (hF : F < 128) (hFU : ∀ w, w < p → F.testBit w = !U.testBit w) : F_X_wrongAt μ 0 (nI q) who (nI F) = some (zwr μ.2.1 p q who U) := by
  obtain ⟨hf, hP, hPe, hAs, hTa, hBa, hYr, hTp, hTx, hIm, hSh, hLt⟩ := id h
  have hn6 := hP.1
  have hp7 := hPe.1
  have n1 : ¬ nI 1 = 0 := by decide
  have n0 : nI 0 = 0 := rfl
  unfold F_X_wrongAt zwr
  by_cases h1 : who = (-1)
  · have e3 := X_needs hf (show q < 6 by omega) hP.2.2.2.2.2.1.2 hP.2.2.2.2.2.1.1
    have e4 := hP.2.2.2.2.2.2.1 q (by omega)
    rw [if_pos h1, if_pos h1, gR_0_0 hf, zb_some, fo_1 hf, zb_some, e3, zb_some, e4]
    rcases hP.2.2.2.1 q (by omega) with z | z
    · rw [z]; rfl
    · rw [z]; rfl
  · rw [if_neg h1, if_neg h1, fo_0 hf, zb_some, X_isPerson hf hPe.2.1, zb_some]
    by_cases h2 : nI 0 ≤ who ∧ who < nI p
    · rw [if_pos h2, if_neg n1, if_neg (show ¬ ¬ (nI 0 ≤ who ∧ who < nI p) from fun z => z h2)]
      obtain ⟨w, hw, rfl⟩ := (zcase who (n := p) (by omega)).resolve_right (fun z => z h2)
      rw [nI_clamp (by omega)]
      have hb := n_bit0 (b := F) (q := w) (by omega) (by omega)
      rw [hFU w hw] at hb
      by_cases h3 : U.testBit w = true
      · rw [if_pos h3, if_pos (hb.mpr (by rw [h3]; rfl))]
      · rw [if_neg h3, if_neg (show ¬ ((nI F >>> (nI w &&& 31)) &&& 1) = 0 from fun z => h3 (by have := hb.mp z; cases hu : U.testBit w with | true => rfl | false => rw [hu] at this; cases this)), gR_0_1 hf, zb_some, aR_3 hf (by omega), zb_some, gR_0_0 hf, zb_some, fo_P hf (by omega), zb_some, can_X h hw hq, zb_some]
        cases zCan μ.2.1 w q
        · rfl
        · rfl
    · rw [if_neg h2, if_pos n0, if_pos h2]
theorem zju_lt {e : Nat → Nat → Int32} {d U0 m : Nat} (hU : U0 < 2 ^ p) (hp7 : p ≤ 7) (hw : ∀ i, i < m → e 101 (40 * d + i) = (-1) ∨ (nI 0 ≤ e 101 (40 * d + i) ∧ e 101 (40 * d + i) < nI p)) : ∀ i, i ≤ m → zju e d U0 i < 2 ^ p := by
  intro i
  induction i with
  | zero => intro _; exact hU
  | succ i ih =>
    intro hi
    unfold zju
    rcases hw i (by omega) with z | z
    · rw [if_pos z]; exact ih (by omega)
    · by_cases z1 : e 101 (40 * d + i) = (-1)
      · rw [if_pos z1]; exact ih (by omega)
      · rw [if_neg z1]
        obtain ⟨w, hw, hwe⟩ := (zcase (e 101 (40 * d + i)) (n := p) (by omega)).resolve_right (fun y => y z)
        rw [hwe, nI_clamp (by omega)]
        exact or_p2 (ih (by omega)) hw
theorem K_judge (h : zSt n p yr tx rl tp c μ) (a b : Int32) : ∃ v, F_X_judge μ 0 a b = some v ∧ F_M_judge μ 73 a b = some v := by
  obtain ⟨hf, hP, hPe, hAs, hTa, hBa, hYr, hTp, hTx, hIm, hSh, hLt⟩ := id h
  have hn6 := hP.1
  have hp7 := hPe.1
  have n1 : ¬ nI 1 = 0 := by decide
  have n0 : nI 0 = 0 := rfl
  have e10 : ¬ (1 : Int32) = 0 := by decide
  have h2p := p2_le hp7
  have h2q := p2_pos p
  rcases zcase a (n := 2 ^ p) (by omega) with ⟨U0, hU0, rfl⟩ | ha
  · have eU := zc_lt hU0 (show 2 ^ p < 2 ^ 31 by omega)
    rcases zcase b (n := 4) (by decide) with ⟨d, hd, rfl⟩ | hb
    · have ed := zc_lt hd (show 4 < 2 ^ 31 by decide)
      obtain ⟨q1, q2, q3, q4, q5⟩ := hSh d hd
      by_cases m1 : μ.2.1 99 d = (-1)
      · refine ⟨-11, ?_, ?_⟩
        · unfold F_X_judge F_Sheet_isMissing
          simp only [fo_0 hf, zb_some, X_crew hf hPe.2.1 hp7, if_pos eU, if_neg n1, X_isSheet, if_pos ed, gR_0_11 hf, aR_17 hf hd, fo_S hf hd, gI_S hf hd, q1, if_pos m1, if_neg e10]
        · unfold F_M_judge
          simp only [fo_73 hf, zb_some, M_away hf hPe.2.2.1 hp7, if_pos eU, if_neg n1, M_isSheet, if_pos ed, gR_73_49 hf, aI_99 hf hd, if_neg (show ¬ 0 ≤ μ.2.1 99 d by rw [m1]; decide)]
      have p1 : 0 ≤ μ.2.1 99 d := by
        rcases q2 with q | q | q | q
        · exact absurd q m1
        · rw [q]; decide
        · rw [q]; decide
        · rw [q]; decide
      by_cases m2 : μ.2.1 100 d = nI n
      · obtain ⟨m, hmn, hm1, hm2⟩ := zstop (fun j => ¬ zwr μ.2.1 p j (μ.2.1 101 (40 * d + j)) (zju μ.2.1 d U0 j) = (-1)) n
        have hok : ∀ i, i < m → zwr μ.2.1 p i (μ.2.1 101 (40 * d + i)) (zju μ.2.1 d U0 i) = (-1) := fun i hi => Classical.byContradiction (hm1 i hi)
        have hwho : ∀ i, i < m → μ.2.1 101 (40 * d + i) = (-1) ∨ (nI 0 ≤ μ.2.1 101 (40 * d + i) ∧ μ.2.1 101 (40 * d + i) < nI p) := by
          intro i hi
          have z := hok i hi
          unfold zwr at z
          by_cases z1 : μ.2.1 101 (40 * d + i) = (-1)
          · exact Or.inl z1
          · rw [if_neg z1] at z
            refine Or.inr (Classical.byContradiction fun z2 => ?_)
            rw [if_pos z2] at z
            exact (znq ⟨i, by omega⟩).1 z
        have hUl := zju_lt (e := μ.2.1) hU0 hp7 hwho
        have hFU : ∀ U, ∀ w, w < p → (zmi (2 ^ p - 1) U).testBit w = !U.testBit w := by
          intro U w hw
          rw [tb_mi (by omega), tb_all, decide_eq_true hw]; rfl
        refine ⟨if m = n then (-1) else zwr μ.2.1 p m (μ.2.1 101 (40 * d + m)) (zju μ.2.1 d U0 m), ?_, ?_⟩
        · unfold F_X_judge F_Sheet_isMissing
          simp only [fo_0 hf, zb_some, X_crew hf hPe.2.1 hp7, if_pos eU, if_neg n1, X_isSheet, if_pos ed, gR_0_11 hf, aR_17 hf hd, fo_S hf hd, gI_S hf hd, q1, if_neg m1, if_true, q3, m2, gR_0_0 hf, gI_1 hf, hP.2.1, X_every hf hPe.2.1 hp7, gR_S_2 hf hd]
          rw [nI_mi (by omega) (by omega)]
          refine fix2_t m (fun j => nI (zmi (2 ^ p - 1) (zju μ.2.1 d U0 j))) (fun j => nI j) ?_ ?_ (zFU_lt (by omega))
          · intro r j hj
            rw [if_neg (show ¬ nI n ≤ nI j by rw [nI_leI (by omega) (by omega)]; omega), aI_S_2 hf hd (by omega), zb_some, q5 j (by omega), X_wrong h (show j < n by omega) (zmi_lt (by omega)) (hFU (zju μ.2.1 d U0 j)), zb_some, if_pos (hok j hj), show nI j + 1 = nI (j + 1) from nI_add j 1, zlet_eq]
            by_cases z : μ.2.1 101 (40 * d + j) = (-1)
            · rw [if_pos z, show zju μ.2.1 d U0 (j + 1) = zju μ.2.1 d U0 j from if_pos z]
            · rw [if_neg z, show zju μ.2.1 d U0 (j + 1) = zju μ.2.1 d U0 j ||| 2 ^ (μ.2.1 101 (40 * d + j)).toNatClampNeg from if_neg z]
              obtain ⟨w, hw, hwe⟩ := (zcase (μ.2.1 101 (40 * d + j)) (n := p) (by omega)).resolve_right (fun y => y ((hwho j hj).resolve_left z))
              rw [hwe, nI_clamp (by omega), n_shl1 (by omega), nI_mi (zmi_lt (by omega)) (by have := Nat.pow_le_pow_right (n := 2) (by decide) (show w ≤ 7 by omega); omega)]
              congr 2
              apply Nat.eq_of_testBit_eq
              intro k
              rw [tb_mi (zmi_lt (by omega)), tb_mi (by omega), tb_mi (by omega), tb_or, Nat.testBit_two_pow]
              cases (2 ^ p - 1).testBit k <;> cases (zju μ.2.1 d U0 j).testBit k <;> simp [eq_comm]
          · intro r
            try dsimp only
            by_cases hmn2 : m = n
            · rw [if_pos hmn2, if_pos (show nI n ≤ nI m by rw [hmn2]; exact Int32.le_refl _)]
            · rw [if_neg hmn2, if_neg (show ¬ nI n ≤ nI m by rw [nI_leI (by omega) (by omega)]; omega), aI_S_2 hf hd (by omega), zb_some, q5 m (by omega), X_wrong h (show m < n by omega) (zmi_lt (by omega)) (hFU (zju μ.2.1 d U0 m)), zb_some, if_neg (hm2.resolve_left hmn2)]
        · unfold F_M_judge
          simp only [fo_73 hf, zb_some, M_away hf hPe.2.2.1 hp7, if_pos eU, if_neg n1, M_isSheet, if_pos ed, gR_73_49 hf, gR_73_50 hf, gR_73_51 hf, gR_73_2 hf, aI_99 hf hd, aI_100 hf hd, if_pos p1, gI_73 hf, m2, hP.2.2.1, if_true]
          have stp : ∀ (r : Int32 → Int32 → Option Int32) (j : Nat), j < n → zju μ.2.1 d U0 j < 2 ^ p → (zaI μ .int (some 101) (((40 : Int32) * nI d) + nI j)).bind (fun v14 => if v14 = (-1) then ((zaI μ .boolean (some 74) (nI j)).bind fun v21 => if v21 = 0 then (if v14 = (-1) then (r (nI (zju μ.2.1 d U0 j)) (nI j + 1)) else ((F_M_isPerson μ 73 v14).bind fun v22 => if v22 = 0 then (some ((10 : Int32) + nI j)) else (if ((nI (zju μ.2.1 d U0 j) >>> (v14 &&& 31)) &&& 1) = 1 then (some ((10 : Int32) + nI j)) else ((F_M_canDo μ 73 v14 (nI j)).bind fun v24 => if v24 = 0 then (some ((20 : Int32) + nI j)) else (zlet ((nI (zju μ.2.1 d U0 j) ||| ((1 : Int32) <<< (v14 &&& 31))) : Int32) fun x26 => r x26 (nI j + 1)))))) else (some ((30 : Int32) + nI j))) else (if v14 = (-1) then (r (nI (zju μ.2.1 d U0 j)) (nI j + 1)) else ((F_M_isPerson μ 73 v14).bind fun v15 => if v15 = 0 then (some ((10 : Int32) + nI j)) else (if ((nI (zju μ.2.1 d U0 j) >>> (v14 &&& 31)) &&& 1) = 1 then (some ((10 : Int32) + nI j)) else ((F_M_canDo μ 73 v14 (nI j)).bind fun v17 => if v17 = 0 then (some ((20 : Int32) + nI j)) else (zlet ((nI (zju μ.2.1 d U0 j) ||| ((1 : Int32) <<< (v14 &&& 31))) : Int32) fun x19 => r x19 (nI j + 1))))))) = if zwr μ.2.1 p j (μ.2.1 101 (40 * d + j)) (zju μ.2.1 d U0 j) = (-1) then r (nI (zju μ.2.1 d U0 (j + 1))) (nI (j + 1)) else some (zwr μ.2.1 p j (μ.2.1 101 (40 * d + j)) (zju μ.2.1 d U0 j)) := by
            intro r j hj hU
            have e1 : zju μ.2.1 d U0 (j + 1) = if μ.2.1 101 (40 * d + j) = (-1) then zju μ.2.1 d U0 j else zju μ.2.1 d U0 j ||| 2 ^ (μ.2.1 101 (40 * d + j)).toNatClampNeg := rfl
            rw [e1]
            generalize zju μ.2.1 d U0 j = U at hU ⊢
            rw [show (40 : Int32) = nI 40 from rfl, pk_mul, nI_add, aI_101 hf (by omega), zb_some, aI_74 hf (by omega), zb_some, show nI j + 1 = nI (j + 1) from nI_add j 1]
            generalize hwho2 : μ.2.1 101 (40 * d + j) = who
            unfold zwr
            by_cases z1 : who = (-1)
            · simp only [if_pos z1]
              rcases hP.2.2.2.1 j (by omega) with z | z
              · simp only [z, if_true]
              · rw [z, if_neg (show ¬ (1 : Int32) = 0 by decide), if_neg (show ¬ (1 : Int32) = 0 by decide), if_neg (znq ⟨j, by omega⟩).2.2]
            · simp only [if_neg z1, M_isPerson hf hPe.2.2.1 hp7, zb_some]
              by_cases z2 : nI 0 ≤ who ∧ who < nI p
              · rw [if_pos z2, if_neg n1, if_neg (show ¬ ¬ (nI 0 ≤ who ∧ who < nI p) from fun y => y z2)]
                obtain ⟨w, hw, rfl⟩ := (zcase who (n := p) (by omega)).resolve_right (fun y => y z2)
                rw [nI_clamp (by omega), can_M h hw hj, zb_some, zlet_eq, n_shl1 (by omega), nI_or]
                by_cases z3 : U.testBit w = true
                · rw [if_pos ((nI_bit (by omega) (by omega)).mpr z3), if_pos z3, if_neg (znq ⟨j, by omega⟩).1]
                · rw [if_neg (show ¬ ((nI U >>> (nI w &&& 31)) &&& 1) = 1 from fun y => z3 ((nI_bit (by omega) (by omega)).mp y)), if_neg z3]
                  cases zCan μ.2.1 w j
                  · rw [if_pos (show b2 false = 0 by decide), if_pos (show false = false from rfl), if_neg (znq ⟨j, by omega⟩).2.1]
                  · rw [if_neg (show ¬ b2 true = 0 by decide), if_neg (show ¬ true = false by decide), if_pos rfl]
              · rw [if_neg z2, if_pos n0, if_pos z2, if_neg (znq ⟨j, by omega⟩).1]
          refine fix2_t m (fun j => nI (zju μ.2.1 d U0 j)) (fun j => nI j) ?_ ?_ (zFU_lt (by omega))
          · intro r j hj
            rw [if_neg (show ¬ nI n ≤ nI j by rw [nI_leI (by omega) (by omega)]; omega)]
            refine (stp r j (by omega) (hUl j (by omega))).trans ?_
            rw [if_pos (hok j hj)]
          · intro r
            try dsimp only
            by_cases hmn2 : m = n
            · rw [if_pos hmn2, if_pos (show nI n ≤ nI m by rw [hmn2]; exact Int32.le_refl _)]
            · rw [if_neg hmn2, if_neg (show ¬ nI n ≤ nI m by rw [nI_leI (by omega) (by omega)]; omega)]
              refine (stp r m (by omega) (hUl m (by omega))).trans ?_
              rw [if_neg (hm2.resolve_left hmn2)]
      · refine ⟨-2, ?_, ?_⟩
        · unfold F_X_judge F_Sheet_isMissing
          simp only [fo_0 hf, zb_some, X_crew hf hPe.2.1 hp7, if_pos eU, if_neg n1, X_isSheet, if_pos ed, gR_0_11 hf, aR_17 hf hd, fo_S hf hd, gI_S hf hd, q1, if_neg m1, if_true, q3, if_neg m2, gR_0_0 hf, gI_1 hf, hP.2.1]
        · unfold F_M_judge
          simp only [fo_73 hf, zb_some, M_away hf hPe.2.2.1 hp7, if_pos eU, if_neg n1, M_isSheet, if_pos ed, gR_73_49 hf, gR_73_50 hf, aI_99 hf hd, aI_100 hf hd, if_pos p1, gI_73 hf, hP.2.2.1, if_neg m2]
    · refine ⟨-2, ?_, ?_⟩
      · unfold F_X_judge
        rw [fo_0 hf, zb_some, X_crew hf hPe.2.1 hp7, if_pos eU, zb_some, if_neg n1, X_isSheet, if_neg hb]; rfl
      · unfold F_M_judge
        rw [fo_73 hf, zb_some, M_away hf hPe.2.2.1 hp7, if_pos eU, zb_some, if_neg n1, M_isSheet, if_neg hb]; rfl
  · refine ⟨-2, ?_, ?_⟩
    · unfold F_X_judge
      rw [fo_0 hf, zb_some, X_crew hf hPe.2.1 hp7, if_neg ha]; rfl
    · unfold F_M_judge
      rw [fo_73 hf, zb_some, M_away hf hPe.2.2.1 hp7, if_neg ha]; rfl
end S
