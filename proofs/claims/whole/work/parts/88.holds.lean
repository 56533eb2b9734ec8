-- ===== sets of sets; holds, worst =====
def yLb (x : Int64) (S : Nat) : Bool := x.toBitVec.getLsbD S
theorem yLb_0 (S : Nat) : yLb 0 S = false := by
  show (0#64 : BitVec 64).getLsbD S = false
  exact BitVec.getLsbD_zero
theorem yLb_or (x y : Int64) (S : Nat) : yLb (x ||| y) S = (yLb x S || yLb y S) := by
  show (x.toBitVec ||| y.toBitVec).getLsbD S = _
  exact BitVec.getLsbD_or
theorem yLb_and (x y : Int64) (S : Nat) : yLb (x &&& y) S = (yLb x S && yLb y S) := by
  show (x.toBitVec &&& y.toBitVec).getLsbD S = _
  exact BitVec.getLsbD_and
theorem yLb_n1 : ∀ S : Fin 64, yLb (-1) S.1 = true := by decide +kernel
theorem yLb_not (x : Int64) {S : Nat} (h : S < 64) : yLb (x ^^^ (-1)) S = !yLb x S := by
  show (x.toBitVec ^^^ (-1 : Int64).toBitVec).getLsbD S = _
  rw [BitVec.getLsbD_xor]
  have := yLb_n1 ⟨S, h⟩
  unfold yLb at this ⊢
  rw [this]
  cases x.toBitVec.getLsbD S <;> rfl
theorem yLb_1 : ∀ S : Fin 64, ∀ j : Fin 64, yLb ((1 : Int64) <<< ((nI S.1).toInt64 &&& 63)) j.1 = decide (j.1 = S.1) := by decide +kernel
theorem yLb_z (x : Int64) : x = 0 ↔ ∀ S, S < 64 → yLb x S = false := by
  constructor
  · intro h S _
    rw [h]; exact yLb_0 S
  · intro h
    apply Int64.toBitVec_inj.mp
    apply BitVec.eq_of_getLsbD_eq
    intro i hi
    have := h i hi
    unfold yLb at this
    rw [this]
    show false = (0#64 : BitVec 64).getLsbD i
    rw [BitVec.getLsbD_zero]
theorem cmp_0 (x y : Int64) : lg_cmp x y = 0 ↔ x = y := by
  unfold lg_cmp
  by_cases h1 : x > y
  · rw [if_pos h1]
    refine ⟨fun h => absurd h (by decide), fun h => ?_⟩
    subst h
    exact absurd (Int64.lt_iff_toInt_lt.mp h1) (by omega)
  · rw [if_neg h1]
    by_cases h2 : x = y
    · rw [if_pos h2]; exact ⟨fun _ => h2, fun _ => rfl⟩
    · rw [if_neg h2]; exact ⟨fun h => absurd h (by decide), fun h => absurd h h2⟩
/-- a set lacks so many or more -/
def yLk (C : Nat → Nat → Bool) (n p mb many least S : Nat) : Bool := decide (1 ≤ S) && decide (zmi S mb = 0) && decide (zct (yrb C n S) p + least ≤ ypc S + many)
section H
variable {C : Nat → Nat → Bool} {mu : Nat → Bool} {n p many mb : Nat} {u : zS}
theorem ypc_r {S : Nat} (hp : p ≤ 7) : ypc (ymk (yrb C n S) p) = zct (yrb C n S) p := by
  rw [ypc_z ymk_lt hp]
  exact zct_cg (fun w hw => by rw [ymk_tb, decide_eq_true hw, Bool.true_and])
theorem yms_i {S : Nat} (hn : n ≤ 6) (hmb : mb < 2 ^ n) (hmu : ∀ q, q < n → mb.testBit q = mu q) (hS : S < 128) : yms n mu 0 S ↔ zmi S mb = 0 := by
  have h64 := p2_6 hn
  constructor
  · intro h
    rw [zmi_0 hS]
    intro j hj
    have hjn : j < n := by
      apply Classical.byContradiction
      intro z
      rw [tb_lt h.1 (by omega)] at hj; cases hj
    rw [hmu j hjn]
    exact (h.2 j hj).1
  · intro h
    have hlt : S < 2 ^ n := Nat.lt_of_le_of_lt (zmi_le hS h) hmb
    refine ⟨hlt, fun q hq => ⟨?_, Nat.zero_le q⟩⟩
    have hqn : q < n := by
      apply Classical.byContradiction
      intro z
      rw [tb_lt hlt (by omega)] at hq; cases hq
    rw [← hmu q hqn]
    exact (zmi_0 hS).mp h q hq
theorem X_lack {least : Nat} (hf : zFr u) (hc : yCv C mu n p u.2.1) (hmb : mb < 2 ^ n) (h60 : u.2.1 6 0 = nI mb) (hmany : many ≤ 7) (hl : least ≤ 3) : ∃ x, F_Cover_lacking u 6 (nI many) (nI least) = some x ∧ ∀ S, S < 64 → yLb x S = yLk C n p mb many least S := by
  obtain ⟨hn6, hp7, -, h8⟩ := hc
  have h64 := p2_6 hn6
  unfold F_Cover_lacking
  refine fix2_p mb (fun i x y => y = nI (i + 1) ∧ ∀ S, S < 64 → yLb x S = (decide (S ≤ i) && yLk C n p mb many least S)) (fun o => ∃ x, o = some x ∧ ∀ S, S < 64 → yLb x S = yLk C n p mb many least S) ?_ ?_ (zFU_lt (by omega)) ⟨rfl, fun S hS => ?_⟩
  · rintro r i x y hi ⟨rfl, hx⟩
    rw [gI_6 hf, zb_some, h60, if_neg (show ¬ nI mb < nI (i + 1) by rw [nI_ltI (by omega) (by omega)]; omega), if_neg (show ¬ (64 : Int32) ≤ nI (i + 1) by rw [show (64 : Int32) = nI 64 from rfl, nI_leI (by omega) (by omega)]; omega), zb_some, nI_mi (by omega) (by omega), show nI (i + 1) + 1 = nI (i + 1 + 1) from nI_add (i + 1) 1]
    have hzl := zmi_lt (b := mb) (show i + 1 < 128 by omega)
    have hpl := ypc_le (i + 1)
    have hrl := zct_le (yrb C n (i + 1)) p
    have no : yLk C n p mb many least (i + 1) = false → ∀ S, S < 64 → yLb x S = (decide (S ≤ i + 1) && yLk C n p mb many least S) := by
      intro hno S hS
      rw [hx S hS]
      by_cases z : S = i + 1
      · subst z; rw [hno, Bool.and_false, Bool.and_false]
      · congr 1
        by_cases y : S ≤ i
        · rw [decide_eq_true y, decide_eq_true (by omega)]
        · rw [decide_eq_false y, decide_eq_false (by omega)]
    left
    by_cases h1 : zmi (i + 1) mb = 0
    · have e1 : (nI (ypc (i + 1)) + nI many - nI (zct (yrb C n (i + 1)) p)).toInt = ((ypc (i + 1) + many : Nat) : Int) - (zct (yrb C n (i + 1)) p : Nat) := by
        rw [nI_add]
        exact pk_sub_toInt (by omega) (by omega)
      rw [if_pos (show nI (zmi (i + 1) mb) = 0 by rw [h1]; rfl), X_bits (by omega), zb_some, gR_6_2 hf, zb_some, aI_8 hf (by omega), zb_some, h8 (i + 1) (by omega), X_bits (Nat.lt_of_lt_of_le ymk_lt (p2_le hp7)), zb_some, ypc_r hp7, zlet_eq]
      by_cases h2 : zct (yrb C n (i + 1)) p + least ≤ ypc (i + 1) + many
      · rw [if_neg (show ¬ nI (ypc (i + 1)) + nI many - nI (zct (yrb C n (i + 1)) p) < nI least by rw [fa_lt, e1, nI_toInt (by omega)]; omega)]
        refine ⟨_, _, ⟨rfl, fun S hS => ?_⟩, rfl⟩
        rw [yLb_or, hx S hS, yLb_1 ⟨i + 1, by omega⟩ ⟨S, hS⟩]
        dsimp only
        by_cases z : S = i + 1
        · subst z
          have : yLk C n p mb many least (i + 1) = true := by
            unfold yLk
            rw [decide_eq_true (by omega), decide_eq_true h1, decide_eq_true h2]; rfl
          rw [this, decide_eq_true rfl, decide_eq_true (Nat.le_refl (i + 1)), Bool.or_true]; rfl
        · rw [decide_eq_false z, Bool.or_false]
          congr 1
          by_cases y : S ≤ i
          · rw [decide_eq_true y, decide_eq_true (by omega)]
          · rw [decide_eq_false y, decide_eq_false (by omega)]
      · rw [if_pos (show nI (ypc (i + 1)) + nI many - nI (zct (yrb C n (i + 1)) p) < nI least by rw [fa_lt, e1, nI_toInt (by omega)]; omega)]
        exact ⟨_, _, ⟨rfl, no (by unfold yLk; rw [decide_eq_false h2, Bool.and_false])⟩, rfl⟩
    · rw [if_neg (show ¬ nI (zmi (i + 1) mb) = 0 from fun z => h1 (nI_inj (by omega) (by decide) z))]
      exact ⟨_, _, ⟨rfl, no (by unfold yLk; rw [decide_eq_false h1, Bool.and_false, Bool.false_and])⟩, rfl⟩
  · rintro r x y ⟨rfl, hx⟩
    refine ⟨x, ?_, fun S hS => ?_⟩
    · rw [gI_6 hf, zb_some, h60, if_pos (show nI mb < nI (mb + 1) from nI_lt (by omega) (by omega))]
    · rw [hx S hS]
      by_cases z : S ≤ mb
      · rw [decide_eq_true z, Bool.true_and]
      · rw [decide_eq_false z, Bool.false_and]
        have : yLk C n p mb many least S = false := by
          unfold yLk
          rw [decide_eq_false (fun y => z (zmi_le (by omega) y)), Bool.and_false, Bool.false_and]
        rw [this]
  · rw [yLb_0]
    by_cases z : S ≤ 0
    · have : yLk C n p mb many least S = false := by
        unfold yLk
        rw [decide_eq_false (by omega), Bool.false_and, Bool.false_and]
      rw [this, Bool.and_false]
    · rw [decide_eq_false z, Bool.false_and]
theorem yLk_bear (hn : n ≤ 6) (hp : p ≤ 7) (hmb : mb < 2 ^ n) (hmu : ∀ q, q < n → mb.testBit q = mu q) : (∀ S, S < 64 → yLk C n p mb many 1 S = false) ↔ ∀ S, yms n mu 0 S → S ≠ 0 → zct S.testBit n + many ≤ zct (yrb C n S) p := by
  have h64 := p2_6 hn
  constructor
  · intro h S hS h0
    have h1 := h S (by have := hS.1; omega)
    have h2 := (yms_i hn hmb hmu (by have := hS.1; omega)).mp hS
    unfold yLk at h1
    rw [decide_eq_true (show 1 ≤ S by omega), decide_eq_true h2, Bool.true_and, Bool.true_and, ypc_z hS.1 (by omega)] at h1
    have := of_decide_eq_false h1
    omega
  · intro h S hS
    unfold yLk
    by_cases z1 : 1 ≤ S
    · by_cases z2 : zmi S mb = 0
      · have h3 := (yms_i hn hmb hmu (by omega)).mpr z2
        have := h S h3 (by omega)
        rw [decide_eq_false (show ¬ zct (yrb C n S) p + 1 ≤ ypc S + many by rw [ypc_z h3.1 (by omega)]; omega), Bool.and_false]
      · rw [decide_eq_false z2, Bool.and_false, Bool.false_and]
    · rw [decide_eq_false z1, Bool.false_and, Bool.false_and]
theorem X_bears (hf : zFr u) (hc : yCv C mu n p u.2.1) (hmb : mb < 2 ^ n) (h60 : u.2.1 6 0 = nI mb) (hmu : ∀ q, q < n → mb.testBit q = mu q) (hmany : many ≤ 7) : F_Cover_bears u 6 (nI many) (nI p) = some (b2 (yfi (yPw C mu n p many) (2 ^ p)).isNone) := by
  have hn6 := hc.1
  have hp7 := hc.2.1
  have hb := ybear (C := C) (mu := mu) (many := many) hn6 hp7
  have hnone : ∀ (o : Option Nat), o.isNone = true ↔ o = none := fun o => by cases o <;> simp
  unfold F_Cover_bears
  by_cases h1 : p < many
  · rw [if_pos (show nI p < nI many from nI_lt h1 (by omega)), hb.mpr (Or.inl h1)]
    rfl
  · obtain ⟨x, x1, x2⟩ := X_lack (least := 1) hf hc hmb h60 hmany (by decide)
    rw [if_neg (show ¬ nI p < nI many by rw [nI_ltI (by omega) (by omega)]; omega), fo_6 hf, zb_some, show (1 : Int32) = nI 1 from rfl, x1, zb_some]
    have e1 : lg_cmp x 0 = 0 ↔ (yfi (yPw C mu n p many) (2 ^ p)).isNone = true := by
      rw [cmp_0, yLb_z, hnone, hb]
      constructor
      · intro z
        exact Or.inr ((yLk_bear hn6 hp7 hmb hmu).mp (fun S hS => by rw [← x2 S hS]; exact z S hS))
      · intro z S hS
        rw [x2 S hS]
        exact (yLk_bear hn6 hp7 hmb hmu).mpr (z.resolve_left h1) S hS
    cases hh : (yfi (yPw C mu n p many) (2 ^ p)).isNone
    · rw [if_neg (fun z => by have := e1.mp z; rw [hh] at this; cases this)]; rfl
    · rw [if_pos (e1.mpr hh)]; rfl
end H
section S
variable {n p yr tx rl tp c : Nat} {μ : zS}
theorem yBW_ag {u u' : zS} (h : yNs yBW u u') : zAg tx u u' := yNs_ag h (fun a k x y => by unfold zess at y; unfold yBW at x; omega)
theorem K_holds (h : zSt n p yr tx rl tp c μ) (a : Int32) : zOk c (fun u => F_X_holds u 0 a) (fun u => F_M_holds u 73 a) μ := by
  obtain ⟨hf, hP, hPe, hAs, hTa, hBa, hYr, hTp, hTx, hIm, hSh, hLt⟩ := id h
  have hn6 := hP.1
  have hp7 := hPe.1
  have n1 : ¬ nI 1 = 0 := by decide
  have n0 : nI 0 = 0 := rfl
  have h2p := p2_le hp7
  rcases zcase a (n := 8) (by decide) with ⟨many, hm, rfl⟩ | ha
  · have ea := zc_lt hm (show 8 < 2 ^ 31 by decide)
    obtain ⟨u, x1, x2, x3, -⟩ := X_look h
    have x3' := x3
    obtain ⟨-, -, ⟨mb, m1, m2, m3⟩, -⟩ := x3'
    have h1 := zSt_ag h (yBC_ag (tx := tx) x2)
    have hd := yBC_dt x2
    obtain ⟨u1, y1, y2, y3⟩ := M_fc h1
    have hd1 : zDt u.2.1 u1.2.1 := yNs_dt y2 (fun a k x => by omega)
    have hmf := yFm_of h1 hd1 y3
    rw [zCan_f hd, yMu_c hd] at hmf
    obtain ⟨u2, w1, w2⟩ := M_worst (many := many) y2.1 hmf (by omega)
    have hag2 : zAg tx u u2 := zAg_tr (yNs_ag y2 (fun a k x y => by unfold zess at y; omega)) (yBW_ag w2)
    have hb := X_bears (many := many) x2.1 x3 m1 m2 m3 (by omega)
    have iM := M_inL u (nI many) 7 (by decide) (z := 7) rfl
    rw [if_pos ea] at iM
    refine zOk_ag h (v := b2 (yfi (yPw (zCan μ.2.1) (yMu μ.2.1) n p many) (2 ^ p)).isNone) (μ1 := u) (μ2 := u2) ?_ (yBC_ag x2) ?_ hag2
    · unfold F_X_holds
      rw [if_neg (nI_lt0 (by omega)), if_pos (show nI many ≤ 7 by rw [show (7 : Int32) = nI 7 from rfl, nI_leI (by omega) (by omega)]; omega), fo_0 hf, zb_some, x1, zb_some, gR_0_8 x2.1, zb_some, gI_0 x2.1, zb_some, h1.2.2.1.2.1, fo_6 x2.1, zb_some, hb, zb_some]
      cases (yfi (yPw (zCan μ.2.1) (yMu μ.2.1) n p many) (2 ^ p)).isNone <;> rfl
    · unfold F_M_holds
      rw [iM, zb_some, if_neg n1, fo_73 h1.1, zb_some, y1, zb_some, fo_73 y2.1, zb_some, w1, zk_some]
      have hneg := yfv_neg (P := yPw (zCan μ.2.1) (yMu μ.2.1) n p many) (N := 2 ^ p) (by omega)
      cases hy : yfi (yPw (zCan μ.2.1) (yMu μ.2.1) n p many) (2 ^ p) with
      | none => rw [if_neg (fun z => absurd (hneg.mpr hy) (Int32.not_lt.mpr z))]; rfl
      | some i => rw [if_pos (Int32.not_lt.mp (fun z => by have := hneg.mp z; rw [hy] at this; cases this))]; rfl
  · have iM := M_inL μ a 7 (by decide) (z := 7) rfl
    rw [if_neg ha] at iM
    refine zOk_same (v := -2) h ?_ ?_
    · unfold F_X_holds
      by_cases q : a < 0
      · rw [if_pos q]
      · rw [if_neg q, if_neg]
        intro z
        apply ha
        refine ⟨Int32.not_lt.mp q, ?_⟩
        rw [fa_le, show (7 : Int32).toInt = 7 by decide] at z
        rw [fa_lt, nI_toInt (by decide)]
        omega
    · unfold F_M_holds
      rw [iM, zb_some, if_pos n0]
end S
