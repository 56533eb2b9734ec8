-- ===== lessons =====
section H
variable {L ok : Nat → Bool} {ok2 : Nat → Nat → Bool} {cost : Nat → Nat} {N : Nat}
theorem ys1_0 (h : ∀ k, L k = true → ok k = false) : ∀ k, ys1 L ok cost k = (-1, 0, 0)
  | 0 => rfl
  | k + 1 => by
    rw [ys1_s, if_neg, ys1_0 h k]
    intro z
    rw [Bool.and_eq_true] at z
    rw [h k z.1] at z; cases z.2
theorem yt2_0 {k : Nat} {s : Int32 × Int32 × Int32} (h : ∀ j, L j = true → ok2 k j = false) : ∀ d, yt2 L ok2 cost k s d = s
  | 0 => rfl
  | d + 1 => by
    rw [yt2_s, if_neg, yt2_0 h d]
    intro z
    rw [Bool.and_eq_true] at z
    rw [h _ z.1] at z; cases z.2
theorem ys2_0 (h : ∀ k j, L k = true → L j = true → ok2 k j = false) : ∀ k, ys2 L ok2 cost N k = (-1, 0, 0)
  | 0 => rfl
  | k + 1 => by
    rw [ys2_s]
    split
    · rename_i z
      rw [yt2_0 (fun j hj => h k j z hj), ys2_0 h k]
    · exact ys2_0 h k
end H
def yOk1 (C : Nat → Nat → Bool) (mu : Nat → Bool) (n p many k : Nat) : Bool := (yfi (yPw (yC1 C k) mu n p many) (2 ^ p)).isNone
def yOk2 (C : Nat → Nat → Bool) (mu : Nat → Bool) (n p many k j : Nat) : Bool := (yfi (yPw (yC1 (yC1 C k) j) mu n p many) (2 ^ p)).isNone
theorem isN {o : Option Nat} : o.isNone = true ↔ o = none := by cases o <;> simp
/-- what lessons come to -/
def yLs (e : Nat → Nat → Int32) (n p rl many : Nat) : Int32 × Int32 × Int32 :=
  if yfi (yPw (zCan e) (yMu e) n p many) (2 ^ p) = none then (0, 0, 0)
  else if (ys1 (yIs e n p) (yOk1 (zCan e) (yMu e) n p many) (fun k => zCost e rl (k / 10) (k % 10)) (10 * p)).1 = (-1) then ys2 (yIs e n p) (yOk2 (zCan e) (yMu e) n p many) (fun k => zCost e rl (k / 10) (k % 10)) (10 * p) (10 * p)
  else ys1 (yIs e n p) (yOk1 (zCan e) (yMu e) n p many) (fun k => zCost e rl (k / 10) (k % 10)) (10 * p)
section S
variable {n p yr tx rl tp c many : Nat} {μ : zS}
theorem X_seek {e : Nat → Nat → Int32} {v : zS} {mb : Nat} {a1 a2 a3 : Int64} (hn : n ≤ 6) (hp : p ≤ 7) (hmb : mb < 2 ^ n) (hmu : ∀ q, q < n → mb.testBit q = yMu e q) (hmany : many ≤ p) (hf : zFr v) (hc : yCr e n p rl (10 * p) v) (h1 : ∀ S, S < 64 → yLb a1 S = yLk (zCan e) n p mb many 1 S) (h2 : ∀ S, S < 64 → yLb a2 S = yLk (zCan e) n p mb many 2 S) (h3 : ∀ S, S < 64 → yLb a3 S = yLk (zCan e) n p mb many 3 S) (hno : yfi (yPw (zCan e) (yMu e) n p many) (2 ^ p) ≠ none) : ∃ v', F_Course_seek v 13 a1 a2 a3 = some v' ∧ yNs yB46 v v' ∧ yrX (yLs e n p rl many) v' := by
  unfold yLs
  rw [if_neg hno]
  have f1 : zFr (zuI v 13 4 (-1)) := fr_uI hf
  have hw1 : yNs yB46 v (zuI v 13 4 (-1)) := yNs_w (yNs_rf hf) ⟨rfl, by decide, by decide⟩
  have hr1 : yrX (-1, 0, 0) (zuI v 13 4 (-1)) := ⟨by rw [uI_at, if_pos ⟨rfl, rfl⟩], fun z => absurd rfl z⟩
  have hc1 := yCr_46 hw1 hc
  have l0 : ∀ (a : Int64) (l : Nat), (∀ S, S < 64 → yLb a S = yLk (zCan e) n p mb many l S) → (lg_cmp a 0 = 0 ↔ ∀ S, S < 64 → yLk (zCan e) n p mb many l S = false) := by
    intro a l h
    rw [cmp_0, yLb_z]
    exact ⟨fun z S hS => by rw [← h S hS]; exact z S hS, fun z S hS => by rw [h S hS]; exact z S hS⟩
  have o1 : ∀ k, yIs e n p k = true → (yOk1 (zCan e) (yMu e) n p many k = true ↔ (∀ S, S < 64 → yLk (zCan e) n p mb many 2 S = false) ∧ ∀ S, S < 64 → yLk (zCan e) n p mb many 1 S = true → yhb (zCan e) n k S = true) := by
    intro k hk
    obtain ⟨z1, z2, -⟩ := yIs_e hk
    unfold yOk1
    rw [isN]
    exact yok1 hn hp hmb hmu hmany z1 z2
  have o2 : ∀ k j, yIs e n p k = true → yIs e n p j = true → (yOk2 (zCan e) (yMu e) n p many k j = true ↔ (∀ S, S < 64 → yLk (zCan e) n p mb many 3 S = false) ∧ (∀ S, S < 64 → yLk (zCan e) n p mb many 1 S = true → (yhb (zCan e) n k S || yhb (zCan e) n j S) = true) ∧ ∀ S, S < 64 → yLk (zCan e) n p mb many 2 S = true → (!decide (k / 10 = j / 10) && (yhb (zCan e) n k S && yhb (zCan e) n j S)) = true) := by
    intro k j hk hj
    obtain ⟨z1, z2, -⟩ := yIs_e hk
    obtain ⟨y1, y2, -⟩ := yIs_e hj
    unfold yOk2
    rw [isN]
    exact yok2 hn hp hmb hmu hmany z1 z2 y1 y2
  generalize hs1 : ys1 (yIs e n p) (yOk1 (zCan e) (yMu e) n p many) (fun k => zCost e rl (k / 10) (k % 10)) (10 * p) = s1 at *
  generalize hs2 : ys2 (yIs e n p) (yOk2 (zCan e) (yMu e) n p many) (fun k => zCost e rl (k / 10) (k % 10)) (10 * p) (10 * p) = s2 at *
  -- behind the seeking of one
  have one : ∀ (K : zS → Option zS), ∃ w, zjn1 (fun (j3 : zS → Option (zS)) => if (lg_cmp a3 0) = 0 then (if (lg_cmp a2 0) = 0 then ((some 13 : Option Nat).bind fun q10 => (F_Course_seekOne (zuI v 13 4 (-1)) q10 a1).bind fun u9 => j3 u9) else (j3 (zuI v 13 4 (-1)))) else (j3 (zuI v 13 4 (-1)))) K = K w ∧ yNs yB46 v w ∧ yrX s1 w := by
    intro K
    rw [zjn1_eq]
    by_cases z2 : lg_cmp a2 0 = 0
    · have z2' := (l0 a2 2 h2).mp z2
      have z3 : lg_cmp a3 0 = 0 := (l0 a3 3 h3).mpr (fun S hS => by
        rw [ytf]
        intro y
        have := z2' S hS
        rw [yLk_mo (show 2 ≤ 3 by decide) y] at this
        cases this)
      obtain ⟨w, w1, w2, w3⟩ := X_seek1 (ok := yOk1 (zCan e) (yMu e) n p many) (a1 := a1) hp hn f1 hc1 hr1 (fun k hk => by
        rw [o1 k hk]
        constructor
        · intro z S hS y; rw [h1 S hS] at y; exact z.2 S hS y
        · intro z; exact ⟨z2', fun S hS y => z S hS (by rw [h1 S hS]; exact y)⟩)
      rw [hs1] at w3
      rw [if_pos z3, if_pos z2, zb_some, w1, zb_some]
      exact ⟨w, rfl, yNs_tr hw1 w2, w3⟩
    · have e1 : s1 = (-1, 0, 0) := by
        rw [← hs1]
        refine ys1_0 (fun k hk => ?_) _
        rw [ytf]
        intro z
        exact z2 ((l0 a2 2 h2).mpr ((o1 k hk).mp z).1)
      rw [e1]
      by_cases z3 : lg_cmp a3 0 = 0
      · rw [if_pos z3, if_neg z2]
        exact ⟨_, rfl, hw1, hr1⟩
      · rw [if_neg z3]
        exact ⟨_, rfl, hw1, hr1⟩
  unfold F_Course_seek
  rw [pI_13 hf, zb_some, fo_13 f1]
  obtain ⟨w, w1, w2, w3⟩ := one (fun (u2 : zS) => if (lg_cmp a3 0) = 0 then ((zgI u2 0 (some 13) 4).bind fun v4 => if v4 = (-1) then ((zob u2 0 (some 13)).bind fun q7 => (F_Course_seekTwo u2 q7 a1 a2).bind fun u6 => some u6) else (some u2)) else (some u2))
  rw [w1]
  by_cases z3 : lg_cmp a3 0 = 0
  · rw [if_pos z3, gI_13 w2.1, zb_some, w3.1]
    by_cases z1 : s1.1 = (-1)
    · have z3' := (l0 a3 3 h3).mp z3
      obtain ⟨x, x1, x2, x3⟩ := X_seek2 (ok2 := yOk2 (zCan e) (yMu e) n p many) (a1 := a1) (a2 := a2) hp hn w2.1 (yCr_46 w2 hc) (⟨w3.1.trans z1, fun z => absurd rfl z⟩ : yrX (-1, 0, 0) w) (fun k j hk hj => by
        rw [o2 k j hk hj]
        constructor
        · intro z
          exact ⟨fun S hS y => z.2.1 S hS (by rw [← h1 S hS]; exact y), fun S hS y => z.2.2 S hS (by rw [← h2 S hS]; exact y)⟩
        · intro z
          exact ⟨z3', fun S hS y => z.1 S hS (by rw [h1 S hS]; exact y), fun S hS y => z.2 S hS (by rw [h2 S hS]; exact y)⟩)
      rw [hs2] at x3
      rw [if_pos z1, if_pos z1, fo_13 w2.1, zb_some, x1, zb_some]
      exact ⟨x, rfl, yNs_tr w2 x2, x3⟩
    · rw [if_neg z1, if_neg z1]
      exact ⟨w, rfl, w2, w3⟩
  · rw [if_neg z3]
    refine ⟨w, rfl, w2, ?_⟩
    by_cases z1 : s1.1 = (-1)
    · have e2 : s2 = (-1, 0, 0) := by
        rw [← hs2]
        refine ys2_0 (fun k j hk hj => ?_) _
        rw [ytf]
        intro z
        exact z3 ((l0 a3 3 h3).mpr ((o2 k j hk hj).mp z).1)
      rw [if_pos z1, e2]
      exact ⟨w3.1.trans z1, fun z => absurd rfl z⟩
    · rw [if_neg z1]
      exact w3
/-- what stays while lessons are tried -/
def yTr (u v : zS) : Prop := yNs yBL u v ∧ ∀ w, v.2.1 91 w = u.2.1 91 w
theorem yTr_dt {u v : zS} (h : yTr u v) : zDt u.2.1 v.2.1 := yNs_dt h.1 (fun a k x => by unfold yBL at x; omega)
theorem yTr_tr {u v w : zS} (h : yTr u v) (h2 : yTr v w) : yTr u w := ⟨yNs_tr h.1 h2.1, fun i => (h2.2 i).trans (h.2 i)⟩
theorem M_isL {v : zS} {k : Nat} (h : zSM n p yr rl v) (hR : yRw (zCan v.2.1) n p v.2.1) (hk : k < 2 ^ 31) : F_M_isLesson v 73 (nI k) = some (b2 (yIs v.2.1 n p k)) := by
  obtain ⟨hf, hn6, hp7, hy99, h1, h4, h10, h74, h75, hpe, htb, hrl, h17, htx⟩ := id h
  obtain ⟨e1, e2⟩ := k10 hk
  unfold F_M_isLesson yIs
  rw [gI_73 hf, zb_some, h4, e2, e1]
  by_cases z1 : k / 10 < p
  · rw [if_neg (show ¬ nI p ≤ nI (k / 10) by rw [nI_leI (by omega) (by omega)]; omega), gI_73 hf, zb_some, h1, decide_eq_true z1]
    by_cases z2 : k % 10 < n
    · have hml : ymk (zCan v.2.1 (k / 10)) n < 64 := Nat.lt_of_lt_of_le ymk_lt (p2_6 hn6)
      have hbit : (ymk (zCan v.2.1 (k / 10)) n).testBit (k % 10) = zCan v.2.1 (k / 10) (k % 10) := by rw [ymk_tb, decide_eq_true z2, Bool.true_and]
      have h6 : ((6 : Int32) * nI (k / 10)) + nI (k % 10) = nI (6 * (k / 10) + k % 10) := by rw [show (6 : Int32) = nI 6 from rfl, pk_mul, nI_add]
      rw [if_neg (show ¬ nI n ≤ nI (k % 10) by rw [nI_leI (by omega) (by omega)]; omega), decide_eq_true z2, gR_73_32 hf, zb_some, aI_91 hf (by omega), zb_some, hR _ z1]
      cases hcc : zCan v.2.1 (k / 10) (k % 10)
      · rw [if_pos ((n_bit0 (by omega) (by omega)).mpr (by rw [hbit, hcc])), gR_73_13 hf, zb_some, h6, aI_83 hf (by omega), zb_some]
        rcases (htb (k / 10) (by omega) (k % 10) (by omega)).2 with y | y
        · rw [y]; rfl
        · rw [y]; rfl
      · rw [if_neg (show ¬ ((nI (ymk (zCan v.2.1 (k / 10)) n) >>> (nI (k % 10) &&& 31)) &&& 1) = 0 from fun y => by have := (n_bit0 (by omega) (by omega)).mp y; rw [hbit, hcc] at this; cases this)]
        rfl
    · rw [if_pos (show nI n ≤ nI (k % 10) by rw [nI_leI (by omega) (by omega)]; omega), decide_eq_false z2]; rfl
  · rw [if_pos (show nI p ≤ nI (k / 10) by rw [nI_leI (by omega) (by omega)]; omega), decide_eq_false z1]; rfl
theorem yIs_c {e e' : Nat → Nat → Int32} (h : zDt e e') (k : Nat) : yIs e' n p k = yIs e n p k := by
  unfold yIs
  rw [zCan_c h, h 83 _ (by omega)]
theorem zCost_c {e e' : Nat → Nat → Int32} (h : zDt e e') (w q : Nat) : zCost e' rl w q = zCost e rl w q := by
  unfold zCost
  rw [zVal_c h]
/-- behind the trying of one or two -/
theorem yrM_st {s : Int32 × Int32 × Int32} {v v' : zS} {m ct w : Int32} {ok : Bool} (hs : yrM s v) (hup : s.1 = (-1) ∨ ct < s.2.1) (h1 : ok = true → v'.2.1 73 38 = m ∧ v'.2.1 73 39 = ct ∧ v'.2.1 73 40 = w) (h0 : ok = false → ∀ j, 38 ≤ j → j ≤ 40 → v'.2.1 73 j = v.2.1 73 j) : yrM (if ok = true then yst s m ct w else s) v' := by
  cases ok
  · rw [if_neg (by decide)]
    have := h0 rfl
    exact ⟨(this 38 (by decide) (by decide)).trans hs.1, fun z => ⟨(this 39 (by decide) (by decide)).trans (hs.2 z).1, (this 40 (by decide) (by decide)).trans (hs.2 z).2⟩⟩
  · rw [if_pos rfl]
    unfold yst
    rw [if_pos hup]
    exact ⟨(h1 rfl).1, fun _ => (h1 rfl).2⟩
theorem M_tries1 {v : zS} {k : Nat} {s : Int32 × Int32 × Int32} (h : zSM n p yr rl v) (hR : yRw (zCan v.2.1) n p v.2.1) (hs : yrM s v) (hs1 : s.1 = (-1) ∨ ¬ s.1 < 0) (hk : yIs v.2.1 n p k = true) (hmany : many < 2 ^ 31) : ∃ v', F_M_tries v 73 (nI many) (nI k) (-1) = some v' ∧ yTr v v' ∧ yrM (if yOk1 (zCan v.2.1) (yMu v.2.1) n p many k = true then yst s 1 (nI (zCost v.2.1 rl (k / 10) (k % 10))) (nI k) else s) v' := by
  obtain ⟨hf, hn6, hp7, hy99, h1, h4, h10, h74, h75, hpe, htb, hrl, h17, htx⟩ := id h
  obtain ⟨z1, z2, z3, z4⟩ := yIs_e hk
  obtain ⟨e1, e2⟩ := k10 (show k < 2 ^ 31 by omega)
  obtain ⟨v2, w1, w2⟩ := cost_N h z1 z2
  have hT : yTr v v2 := ⟨yNs_mo (yNs_M w2) (fun a k z => Or.inl (by omega)), fun w => w2.2.2.2 91 w (by omega) (by omega)⟩
  have hd := yTr_dt hT
  have h2 := zSM_c h hd w2.1
  have hs2 : yrM s v2 := ⟨(w2.2.2.2 _ _ (by omega) (by omega)).trans hs.1, fun z => ⟨(w2.2.2.2 _ _ (by omega) (by omega)).trans (hs.2 z).1, (w2.2.2.2 _ _ (by omega) (by omega)).trans (hs.2 z).2⟩⟩
  have hR2 : yRw (zCan v.2.1) n p v2.2.1 := fun w hw => by rw [hT.2]; exact hR w hw
  obtain ⟨v3, c1, c2, c3, c4, c5⟩ := yTc_1 (many := many) (mu := yMu v.2.1) (ct := nI (zCost v.2.1 rl (k / 10) (k % 10))) w2.1 hn6 hp7 ((hd _ _ (by omega)).trans h1) ((hd _ _ (by omega)).trans h4) (fun q hq => by rw [hd 74 q (by omega)]; exact b2_dec (h74 q (by omega))) hR2 z1 z2 z3 hmany
  have hT3 : yTr v v3 := yTr_tr hT ⟨c2, c3⟩
  have e0 : nI (zCost v.2.1 rl (k / 10) (k % 10)) + 0 = nI (zCost v.2.1 rl (k / 10) (k % 10)) := nI_add _ 0
  have hgo : (s.1 = (-1) ∨ nI (zCost v.2.1 rl (k / 10) (k % 10)) < s.2.1) → yrM (if yOk1 (zCan v.2.1) (yMu v.2.1) n p many k = true then yst s 1 (nI (zCost v.2.1 rl (k / 10) (k % 10))) (nI k) else s) v3 := fun hup => yrM_st hs2 hup c4 c5
  have hF : F_M_tries v 73 (nI many) (nI k) (-1) = (if v2.2.1 73 38 < 0 then yTc (nI many) (nI k) (-1) (nI (zCost v.2.1 rl (k / 10) (k % 10))) v2 else (if nI (zCost v.2.1 rl (k / 10) (k % 10)) < v2.2.1 73 39 then yTc (nI many) (nI k) (-1) (nI (zCost v.2.1 rl (k / 10) (k % 10))) v2 else some v2)) := by
    unfold F_M_tries
    rw [fo_73 hf, zb_some, e2, e1, w1, zk_some, zjn2_eq, if_neg (show ¬ (0 : Int32) ≤ (-1) by decide)]
    try dsimp only
    rw [gI_73 w2.1, zb_some, gI_73 w2.1, zb_some, e0]
    rfl
  rw [hF, hs2.1]
  rcases hs1 with y | y
  · rw [if_pos (show s.1 < 0 by rw [y]; decide), c1]
    exact ⟨v3, rfl, hT3, hgo (Or.inl y)⟩
  · have y' : s.1 ≠ (-1) := fun z => y (by rw [z]; decide)
    rw [if_neg y, (hs2.2 y').1]
    by_cases z : nI (zCost v.2.1 rl (k / 10) (k % 10)) < s.2.1
    · rw [if_pos z, c1]
      exact ⟨v3, rfl, hT3, hgo (Or.inr z)⟩
    · rw [if_neg z]
      refine ⟨v2, rfl, hT, ?_⟩
      have : yst s 1 (nI (zCost v.2.1 rl (k / 10) (k % 10))) (nI k) = s := by
        unfold yst
        rw [if_neg (fun x => x.elim y' z)]
      rw [this]
      split <;> exact hs2
theorem M_tries2 {v : zS} {k l : Nat} {s : Int32 × Int32 × Int32} (h : zSM n p yr rl v) (hR : yRw (zCan v.2.1) n p v.2.1) (hs : yrM s v) (hs1 : s.1 = (-1) ∨ ¬ s.1 < 0) (hk : yIs v.2.1 n p k = true) (hl : yIs v.2.1 n p l = true) (hkl : k < l) (hmany : many < 2 ^ 31) : ∃ v', F_M_tries v 73 (nI many) (nI k) (nI l) = some v' ∧ yTr v v' ∧ yrM (if yOk2 (zCan v.2.1) (yMu v.2.1) n p many k l = true then yst s 2 (nI (zCost v.2.1 rl (k / 10) (k % 10) + zCost v.2.1 rl (l / 10) (l % 10))) (nI (100 * k + l)) else s) v' := by
  obtain ⟨hf, hn6, hp7, hy99, h1, h4, h10, h74, h75, hpe, htb, hrl, h17, htx⟩ := id h
  obtain ⟨z1, z2, z3, z4⟩ := yIs_e hk
  obtain ⟨y1, y2, y3, y4⟩ := yIs_e hl
  obtain ⟨e1, e2⟩ := k10 (show k < 2 ^ 31 by omega)
  obtain ⟨d1, d2⟩ := k10 (show l < 2 ^ 31 by omega)
  obtain ⟨v1, w1, w2⟩ := cost_N h z1 z2
  have hT1 : yTr v v1 := ⟨yNs_mo (yNs_M w2) (fun a k z => Or.inl (by omega)), fun w => w2.2.2.2 91 w (by omega) (by omega)⟩
  have hd1 := yTr_dt hT1
  obtain ⟨v2, x1, x2⟩ := cost_N (zSM_c h hd1 w2.1) y1 y2
  rw [zCost_c hd1] at x1
  have hT : yTr v v2 := yTr_tr hT1 ⟨yNs_mo (yNs_M x2) (fun a k z => Or.inl (by omega)), fun w => x2.2.2.2 91 w (by omega) (by omega)⟩
  have hd := yTr_dt hT
  have hj : ∀ j, 38 ≤ j → j ≤ 40 → v2.2.1 73 j = v.2.1 73 j := fun j _ _ => by rw [x2.2.2.2 73 j (by omega) (by omega), w2.2.2.2 73 j (by omega) (by omega)]
  have hs2 : yrM s v2 := ⟨(hj 38 (by decide) (by decide)).trans hs.1, fun z => ⟨(hj 39 (by decide) (by decide)).trans (hs.2 z).1, (hj 40 (by decide) (by decide)).trans (hs.2 z).2⟩⟩
  have hR2 : yRw (zCan v.2.1) n p v2.2.1 := fun w hw => by rw [hT.2]; exact hR w hw
  generalize hct : zCost v.2.1 rl (k / 10) (k % 10) + zCost v.2.1 rl (l / 10) (l % 10) = ct at *
  obtain ⟨v3, c1, c2, c3, c4, c5⟩ := yTc_2 (many := many) (mu := yMu v.2.1) (ct := nI ct) x2.1 hn6 hp7 ((hd _ _ (by omega)).trans h1) ((hd _ _ (by omega)).trans h4) (fun q hq => by rw [hd 74 q (by omega)]; exact b2_dec (h74 q (by omega))) hR2 z1 z2 z3 y1 y2 y3 hkl hmany
  have hT3 : yTr v v3 := yTr_tr hT ⟨c2, c3⟩
  have hgo : (s.1 = (-1) ∨ nI ct < s.2.1) → yrM (if yOk2 (zCan v.2.1) (yMu v.2.1) n p many k l = true then yst s 2 (nI ct) (nI (100 * k + l)) else s) v3 := fun hup => yrM_st hs2 hup c4 c5
  have hF : F_M_tries v 73 (nI many) (nI k) (nI l) = (if v2.2.1 73 38 < 0 then yTc (nI many) (nI k) (nI l) (nI ct) v2 else (if nI ct < v2.2.1 73 39 then yTc (nI many) (nI k) (nI l) (nI ct) v2 else some v2)) := by
    unfold F_M_tries
    rw [fo_73 hf, zb_some, e2, e1, w1, zk_some, zjn2_eq, if_pos (nI_nn (show l < 2 ^ 31 by omega)), fo_73 w2.1, zb_some, d2, d1, x1, zk_some]
    try dsimp only
    rw [gI_73 x2.1, zb_some, gI_73 x2.1, zb_some, nI_add, hct]
    rfl
  rw [hF, hs2.1]
  rcases hs1 with y | y
  · rw [if_pos (show s.1 < 0 by rw [y]; decide), c1]
    exact ⟨v3, rfl, hT3, hgo (Or.inl y)⟩
  · have y' : s.1 ≠ (-1) := fun z => y (by rw [z]; decide)
    rw [if_neg y, (hs2.2 y').1]
    by_cases z : nI ct < s.2.1
    · rw [if_pos z, c1]
      exact ⟨v3, rfl, hT3, hgo (Or.inr z)⟩
    · rw [if_neg z]
      refine ⟨v2, rfl, hT, ?_⟩
      have : yst s 2 (nI ct) (nI (100 * k + l)) = s := by
        unfold yst
        rw [if_neg (fun x => x.elim y' z)]
      rw [this]
      split <;> exact hs2
end S
