-- ===== the first that breaks; whether any so many may be away =====
def yfi (P : Nat → Bool) : Nat → Option Nat
  | 0 => none
  | n + 1 => match yfi P n with
    | some i => some i
    | none => if P n = true then some n else none
theorem yfi_n {P : Nat → Bool} : ∀ {N : Nat}, yfi P N = none ↔ ∀ i, i < N → P i = false
  | 0 => ⟨fun _ i hi => absurd hi (Nat.not_lt_zero i), fun _ => rfl⟩
  | N + 1 => by
    have ih := yfi_n (P := P) (N := N)
    unfold yfi
    cases h : yfi P N with
    | some i =>
      constructor
      · intro z; cases z
      · intro z
        rw [ih.mpr (fun i hi => z i (by omega))] at h; cases h
    | none =>
      have h1 := ih.mp h
      cases hP : P N
      · constructor
        · intro _ i hi
          by_cases hiN : i = N
          · rw [hiN]; exact hP
          · exact h1 i (by omega)
        · intro _; rfl
      · constructor
        · intro z; cases z
        · intro z; rw [z N (Nat.lt_succ_self N)] at hP; cases hP
theorem yfi_s {P : Nat → Bool} {i : Nat} (h1 : ∀ j, j < i → P j = false) (h2 : P i = true) : ∀ {N : Nat}, i < N → yfi P N = some i
  | 0, h => absurd h (Nat.not_lt_zero i)
  | N + 1, h => by
    unfold yfi
    by_cases hiN : i = N
    · subst hiN
      rw [yfi_n.mpr h1]
      dsimp only
      rw [if_pos h2]
    · rw [yfi_s h1 h2 (N := N) (by omega)]
def yfv (P : Nat → Bool) (N : Nat) : Int32 := match yfi P N with
  | some i => nI i
  | none => -1
theorem yfi_ex {P : Nat → Bool} {N : Nat} : yfi P N = none ∨ ∃ i, i < N ∧ P i = true ∧ (∀ j, j < i → P j = false) ∧ yfi P N = some i := by
  obtain ⟨m, h1, h2, h3⟩ := zstop (fun i => P i = true) N
  have h2' : ∀ i, i < m → P i = false := fun i hi => by
    cases h : P i with
    | false => rfl
    | true => exact absurd h (h2 i hi)
  by_cases hm : m = N
  · exact Or.inl (yfi_n.mpr (by rw [← hm]; exact h2'))
  · exact Or.inr ⟨m, by omega, h3.resolve_left hm, h2', yfi_s h2' (h3.resolve_left hm) (by omega)⟩
theorem yfi_cg {P P' : Nat → Bool} {N : Nat} (h : ∀ i, i < N → P i = P' i) : yfi P N = yfi P' N := by
  rcases yfi_ex (P := P) (N := N) with z | ⟨i, z1, z2, z3, z4⟩
  · rw [z, eq_comm, yfi_n]
    intro i hi
    rw [← h i hi]
    exact yfi_n.mp z i hi
  · rw [z4, yfi_s (fun j hj => by rw [← h j (by omega)]; exact z3 j hj) (by rw [← h i z1]; exact z2) z1]
theorem yfv_neg {P : Nat → Bool} {N : Nat} (hN : N < 2 ^ 31) : yfv P N < 0 ↔ yfi P N = none := by
  unfold yfv
  rcases yfi_ex (P := P) (N := N) with z | ⟨i, z1, z2, z3, z4⟩
  · rw [z]
    exact ⟨fun _ => rfl, fun _ => by decide⟩
  · rw [z4]
    exact ⟨fun y => absurd y (nI_lt0 (by omega)), fun y => by cases y⟩
/-- so many are away, and there is no filling -/
def yPw (C : Nat → Nat → Bool) (mu : Nat → Bool) (n p many U : Nat) : Bool := decide (ypc U = many) && !yfl C n p mu n (fun w => !U.testBit w)
def yBW (a k : Nat) : Prop := a = 93 ∨ (a = 73 ∧ k = 37)
section H
variable {C : Nat → Nat → Bool} {mu : Nat → Bool} {n p many : Nat} {u : zS}
theorem yFm_W {u' : zS} (h : yNs yBW u u') (hm : yFm C mu n p u.2.1) : yFm C mu n p u'.2.1 := yFm_c hm (h.2.2.2 _ _ (by unfold yBW; omega)) (h.2.2.2 _ _ (by unfold yBW; omega)) (fun k => h.2.2.2 _ _ (by unfold yBW; omega)) (fun k => h.2.2.2 _ _ (by unfold yBW; omega))
theorem M_isF2 {U : Nat} (hf : zFr u) (hm : yFm C mu n p u.2.1) (hU : U < 2 ^ p) : ∃ u', F_M_isFilled u 73 (nI U) = some (b2 (yfl C n p mu n (fun w => !U.testBit w)), u') ∧ yNs yBW u u' := by
  obtain ⟨u', h1, h2, h3, h4, h5⟩ := M_isF hf hm hU
  exact ⟨u', h1, h2, h3, h4, fun a k z => h5 a k (fun y => z (Or.inl y)) (fun y => z (Or.inr y))⟩
theorem M_worst (hf : zFr u) (hm : yFm C mu n p u.2.1) (hmany : many < 2 ^ 31) : ∃ u', F_M_worstOf u 73 (nI many) = some (yfv (yPw C mu n p many) (2 ^ p), u') ∧ yNs yBW u u' := by
  have hp7 := hm.2.1
  have h2p := p2_le hp7
  have h2q := p2_pos p
  unfold F_M_worstOf
  refine fix2_p (2 ^ p) (fun i v x => yNs yBW u v ∧ x = nI i ∧ ∀ j, j < i → yPw C mu n p many j = false) (fun o => ∃ u', o = some (yfv (yPw C mu n p many) (2 ^ p), u') ∧ yNs yBW u u') ?_ ?_ (zFU_lt (by omega)) ⟨yNs_rf hf, rfl, fun j hj => absurd hj (Nat.not_lt_zero j)⟩
  · rintro r i v x hi ⟨hv, rfl, hno⟩
    have hmv := yFm_W hv hm
    have hpl := ypc_le i
    rw [gI_73 hv.1, zb_some, hmv.2.2.2.1, n_shl1 (by omega), if_neg (show ¬ nI (2 ^ p) ≤ nI i by rw [nI_leI (by omega) (by omega)]; omega), M_bits (by omega), zb_some, show nI i + 1 = nI (i + 1) from nI_add i 1]
    have cont : yPw C mu n p many i = false → ∀ j, j < i + 1 → yPw C mu n p many j = false := by
      intro z j hj
      by_cases hji : j = i
      · rw [hji]; exact z
      · exact hno j (by omega)
    by_cases hc : ypc i = many
    · obtain ⟨u2, r1, r2⟩ := M_isF2 hv.1 hmv hi
      have h3 := yNs_tr hv r2
      rw [if_pos (show nI (ypc i) = nI many by rw [hc]), fo_73 hv.1, zb_some, r1, zk_some]
      cases hfl : yfl C n p mu n (fun w => !i.testBit w)
      · have hP : yPw C mu n p many i = true := by
          unfold yPw
          rw [hfl, decide_eq_true hc]; rfl
        rw [if_pos (show b2 false = 0 from rfl)]
        right
        refine ⟨u2, ?_, h3⟩
        unfold yfv
        rw [yfi_s hno hP hi]
      · have hP : yPw C mu n p many i = false := by
          unfold yPw
          rw [hfl]; simp
        rw [if_neg (show ¬ b2 true = 0 by decide)]
        exact Or.inl ⟨u2, nI (i + 1), ⟨h3, rfl, cont hP⟩, rfl⟩
    · have hP : yPw C mu n p many i = false := by
        unfold yPw
        rw [decide_eq_false hc]; rfl
      rw [if_neg (show ¬ nI (ypc i) = nI many from fun z => hc (nI_inj (by omega) hmany z))]
      exact Or.inl ⟨v, nI (i + 1), ⟨hv, rfl, cont hP⟩, rfl⟩
  · rintro r v x ⟨hv, rfl, hno⟩
    refine ⟨v, ?_, hv⟩
    rw [gI_73 hv.1, zb_some, (yFm_W hv hm).2.2.2.1, n_shl1 (by omega), if_pos (Int32.le_refl _)]
    unfold yfv
    rw [yfi_n.mpr hno]
theorem X_break {mb : Nat} (hf : zFr u) (hp : u.2.1 0 2 = nI p) (hc : yCv C mu n p u.2.1) (hmb : mb < 2 ^ n) (h60 : u.2.1 6 0 = nI mb) (hmu : ∀ q, q < n → mb.testBit q = mu q) (hmany : many < 2 ^ 31) :
    (zfix1 (fun (r4 : Int32 → Option (Int32 × zS)) (x5 : Int32) => (zob u 8 (some 0)).bind fun q7 => (F_X_everyone u q7 ).bind fun v6 => if v6 < x5 then (some ((-1), u)) else ((F_Integer_bitCount u x5).bind fun v8 => if v8 = nI many then ((zgR u 8 (some 0) 8).bind fun v9 => (zob u 8 (some 0)).bind fun q11 => (F_X_everyone u q11 ).bind fun v10 => (zob u 1 v9).bind fun q13 => (F_Cover_tooFew u q13 (v10 &&& (x5 ^^^ (-1)))).bind fun v12 => if v12 = (-1) then (r4 (x5 + 1)) else (some (x5, u))) else (r4 (x5 + 1)))) zFU 0) = some (yfv (yPw C mu n p many) (2 ^ p), u) := by
  have hn6 := hc.1
  have hp7 := hc.2.1
  have h2p := p2_le hp7
  have h2q := p2_pos p
  simp only [fo_0 hf, zb_some, X_every hf hp hp7, gR_0_8 hf, fo_6 hf]
  refine fix1_p (2 ^ p) (fun i x => x = nI i ∧ ∀ j, j < i → yPw C mu n p many j = false) (fun o => o = some (yfv (yPw C mu n p many) (2 ^ p), u)) ?_ ?_ (zFU_lt (by omega)) ⟨rfl, fun j hj => absurd hj (Nat.not_lt_zero j)⟩
  · rintro r i x hi ⟨rfl, hno⟩
    have hpl := ypc_le i
    rw [if_neg (show ¬ nI (2 ^ p - 1) < nI i by rw [nI_ltI (by omega) (by omega)]; omega), X_bits (by omega), zb_some, show nI i + 1 = nI (i + 1) from nI_add i 1]
    have cont : yPw C mu n p many i = false → ∀ j, j < i + 1 → yPw C mu n p many j = false := by
      intro z j hj
      by_cases hji : j = i
      · rw [hji]; exact z
      · exact hno j (by omega)
    by_cases hcc : ypc i = many
    · have hT := X_few (F := fun w => !i.testBit w) hf hc hmb h60 (yall_free (U := i) hp7)
      have hH := (yTH (C := C) (p := p) (F := fun w => !i.testBit w) hn6 hmb hmu).trans ((by rw [Nat.sub_self] : yH C n p mu 0 (fun w => !i.testBit w) ↔ yH C n p mu (n - n) (fun w => !i.testBit w)).trans (yhall (C := C) (p := p) (mu := mu) n (fun w => !i.testBit w) (Nat.le_refl n)).symm)
      rw [if_pos (show nI (ypc i) = nI many by rw [hcc]), nI_mi (by omega) (by omega), hT, zb_some]
      cases hfl : yfl C n p mu n (fun w => !i.testBit w)
      · have hP : yPw C mu n p many i = true := by
          unfold yPw
          rw [hfl, decide_eq_true hcc]; rfl
        rw [if_neg (fun z => by have := hH.mp z; rw [hfl] at this; cases this)]
        right
        show some (nI i, u) = _
        unfold yfv
        rw [yfi_s hno hP hi]
      · have hP : yPw C mu n p many i = false := by
          unfold yPw
          rw [hfl]; simp
        rw [if_pos (hH.mpr hfl)]
        exact Or.inl ⟨nI (i + 1), ⟨rfl, cont hP⟩, rfl⟩
    · have hP : yPw C mu n p many i = false := by
        unfold yPw
        rw [decide_eq_false hcc]; rfl
      rw [if_neg (show ¬ nI (ypc i) = nI many from fun z => hcc (nI_inj (by omega) hmany z))]
      exact Or.inl ⟨nI (i + 1), ⟨rfl, cont hP⟩, rfl⟩
  · rintro r x ⟨rfl, hno⟩
    rw [if_pos (show nI (2 ^ p - 1) < nI (2 ^ p) from nI_lt (by omega) (by omega))]
    unfold yfv
    rw [yfi_n.mpr hno]
/-- so many, of a set as many as there are -/
theorem ypick (A : Nat → Bool) : ∀ (p many : Nat), many ≤ p → ∃ V : Nat → Bool, zct V p = many ∧ zct (fun w => A w && !V w) p = zct A p - many
  | 0, many, h => ⟨fun _ => false, by show 0 = many; omega, by show 0 = 0 - many; omega⟩
  | p + 1, many, h => by
    by_cases hall : many = p + 1
    · subst hall
      refine ⟨fun _ => true, ?_, ?_⟩
      · have : ∀ k, zct (fun _ => true) k = k := by
          intro k
          induction k with
          | zero => rfl
          | succ k ih => rw [zct_s, ih]; rfl
        exact this _
      · have h1 := zct_le A (p + 1)
        rw [zct_0 (fun i _ => by simp)]
        omega
    · have upd : ∀ (V : Nat → Bool) (b : Bool), zct (fun w => if w = p then b else V w) p = zct V p ∧ zct (fun w => A w && !(if w = p then b else V w)) p = zct (fun w => A w && !V w) p := by
        intro V b
        exact ⟨zct_cg (fun i hi => by rw [if_neg (by omega)]), zct_cg (fun i hi => by rw [if_neg (by omega)])⟩
      by_cases hA : A p = true ∧ 1 ≤ many
      · obtain ⟨V, v1, v2⟩ := ypick A p (many - 1) (by omega)
        obtain ⟨e1, e2⟩ := upd V true
        refine ⟨fun w => if w = p then true else V w, ?_, ?_⟩
        · rw [zct_s, e1, v1, if_pos rfl]; simp; omega
        · rw [zct_s, e2, v2, zct_s]
          simp [hA.1]
          omega
      · obtain ⟨V, v1, v2⟩ := ypick A p many (by omega)
        obtain ⟨e1, e2⟩ := upd V false
        refine ⟨fun w => if w = p then false else V w, ?_, ?_⟩
        · rw [zct_s, e1, v1, if_pos rfl]; simp
        · rw [zct_s, e2, v2, zct_s]
          cases hAp : A p
          · simp [hAp]
          · have : many = 0 := by
              apply Classical.byContradiction
              intro z
              exact hA ⟨hAp, by omega⟩
            subst this
            simp [hAp]
/-- any so many may be away: each set of posts has enough -/
theorem ybear (hn : n ≤ 6) (hp : p ≤ 7) : yfi (yPw C mu n p many) (2 ^ p) = none ↔ (p < many ∨ ∀ S, yms n mu 0 S → S ≠ 0 → zct S.testBit n + many ≤ zct (yrb C n S) p) := by
  have hfl : ∀ F, (yfl C n p mu n F = true ↔ yH C n p mu 0 F) := fun F => by
    have := yhall (C := C) (p := p) (mu := mu) n F (Nat.le_refl n)
    rw [Nat.sub_self] at this
    exact this
  rw [yfi_n]
  constructor
  · intro h
    by_cases hmp : p < many
    · exact Or.inl hmp
    · refine Or.inr (fun S hS hS0 => ?_)
      apply Classical.byContradiction
      intro hlt
      obtain ⟨V, v1, v2⟩ := ypick (yrb C n S) p many (by omega)
      have hU : ymk V p < 2 ^ p := ymk_lt
      have htb : ∀ w, w < p → (ymk V p).testBit w = V w := fun w hw => by rw [ymk_tb, decide_eq_true hw, Bool.true_and]
      have h1 := h (ymk V p) hU
      have e1 : ypc (ymk V p) = many := by
        rw [ypc_z hU hp, ← v1]
        exact zct_cg htb
      unfold yPw at h1
      rw [decide_eq_true e1, Bool.true_and] at h1
      have h2 : yfl C n p mu n (fun w => !(ymk V p).testBit w) = true := by
        cases z : yfl C n p mu n (fun w => !(ymk V p).testBit w) with
        | true => rfl
        | false => rw [z] at h1; cases h1
      have h3 := (hfl _).mp h2 S hS
      have e2 : yrc C n p S (fun w => !(ymk V p).testBit w) = zct (yrb C n S) p - many := by
        rw [← v2]
        exact zct_cg (fun w hw => by
          show (yrb C n S w && !(ymk V p).testBit w) = (yrb C n S w && !V w)
          rw [htb w hw])
      have hpos : 1 ≤ zct S.testBit n := by
        apply Classical.byContradiction
        intro z
        apply hS0
        apply Nat.eq_of_testBit_eq
        intro j
        rw [Nat.zero_testBit]
        cases hj : S.testBit j with
        | false => rfl
        | true =>
          have hjn : j < n := by
            apply Classical.byContradiction
            intro y
            rw [tb_lt hS.1 (by omega)] at hj; cases hj
          have := zct_m1 (A := fun _ => false) (B := S.testBit) (w := j) hjn (fun i _ y => by cases y) rfl hj
          omega
      omega
  · rintro (hmp | h) U hU
    · unfold yPw
      have : ypc U ≤ p := by rw [ypc_z hU hp]; exact zct_le _ p
      rw [decide_eq_false (by omega)]
      rfl
    · unfold yPw
      by_cases hc : ypc U = many
      · have : yfl C n p mu n (fun w => !U.testBit w) = true := by
          rw [hfl]
          intro S hS
          by_cases hS0 : S = 0
          · subst hS0
            rw [zct_0 (fun i _ => Nat.zero_testBit i)]
            exact Nat.zero_le _
          · have h1 := h S hS hS0
            have e0 := zct_oa (fun w => yrb C n S w && !U.testBit w) (fun w => yrb C n S w && U.testBit w) p
            have e1 : zct (fun w => (yrb C n S w && !U.testBit w) || (yrb C n S w && U.testBit w)) p = zct (yrb C n S) p := zct_cg (fun w _ => by cases yrb C n S w <;> cases U.testBit w <;> rfl)
            have e2 : zct (fun w => yrb C n S w && U.testBit w) p ≤ zct U.testBit p := zct_mo (fun w _ z => by rw [Bool.and_eq_true] at z; exact z.2)
            rw [← ypc_z hU hp, hc] at e2
            have e3 : yrc C n p S (fun w => !U.testBit w) = zct (fun w => yrb C n S w && !U.testBit w) p := rfl
            omega
        rw [this]; simp
      · rw [decide_eq_false hc]; rfl
end H
