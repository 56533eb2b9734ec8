-- ===== the class seeks =====
def yst (s : Int32 × Int32 × Int32) (m c w : Int32) : Int32 × Int32 × Int32 := if s.1 = (-1) ∨ c < s.2.1 then (m, c, w) else s
def ys1 (L ok : Nat → Bool) (cost : Nat → Nat) : Nat → Int32 × Int32 × Int32
  | 0 => (-1, 0, 0)
  | k + 1 => if (L k && ok k) = true then yst (ys1 L ok cost k) 1 (nI (cost k)) (nI k) else ys1 L ok cost k
def yt2 (L : Nat → Bool) (ok2 : Nat → Nat → Bool) (cost : Nat → Nat) (k : Nat) (s : Int32 × Int32 × Int32) : Nat → Int32 × Int32 × Int32
  | 0 => s
  | d + 1 => if (L (k + 1 + d) && ok2 k (k + 1 + d)) = true then yst (yt2 L ok2 cost k s d) 2 (nI (cost k + cost (k + 1 + d))) (nI (100 * k + (k + 1 + d))) else yt2 L ok2 cost k s d
def ys2 (L : Nat → Bool) (ok2 : Nat → Nat → Bool) (cost : Nat → Nat) (N : Nat) : Nat → Int32 × Int32 × Int32
  | 0 => (-1, 0, 0)
  | k + 1 => if L k = true then yt2 L ok2 cost k (ys2 L ok2 cost N k) (N - (k + 1)) else ys2 L ok2 cost N k
section H
variable {L ok : Nat → Bool} {ok2 : Nat → Nat → Bool} {cost : Nat → Nat} {N : Nat}
theorem ys1_s (k : Nat) : ys1 L ok cost (k + 1) = if (L k && ok k) = true then yst (ys1 L ok cost k) 1 (nI (cost k)) (nI k) else ys1 L ok cost k := rfl
theorem yt2_s (k d : Nat) (s : Int32 × Int32 × Int32) : yt2 L ok2 cost k s (d + 1) = if (L (k + 1 + d) && ok2 k (k + 1 + d)) = true then yst (yt2 L ok2 cost k s d) 2 (nI (cost k + cost (k + 1 + d))) (nI (100 * k + (k + 1 + d))) else yt2 L ok2 cost k s d := rfl
theorem ys2_s (k : Nat) : ys2 L ok2 cost N (k + 1) = if L k = true then yt2 L ok2 cost k (ys2 L ok2 cost N k) (N - (k + 1)) else ys2 L ok2 cost N k := rfl
theorem ys1_c {k : Nat} : ∀ {k' : Nat}, k ≤ k' → (∀ j, k ≤ j → j < k' → L j = false) → ys1 L ok cost k' = ys1 L ok cost k
  | 0, h, _ => by rw [show k = 0 by omega]
  | k' + 1, h, hn => by
    by_cases hk : k = k' + 1
    · rw [hk]
    · rw [ys1_s, hn k' (by omega) (by omega), Bool.false_and, if_neg (by decide)]
      exact ys1_c (k' := k') (by omega) (fun j a b => hn j a (by omega))
theorem ys2_c {k : Nat} : ∀ {k' : Nat}, k ≤ k' → (∀ j, k ≤ j → j < k' → L j = false) → ys2 L ok2 cost N k' = ys2 L ok2 cost N k
  | 0, h, _ => by rw [show k = 0 by omega]
  | k' + 1, h, hn => by
    by_cases hk : k = k' + 1
    · rw [hk]
    · rw [ys2_s, hn k' (by omega) (by omega), if_neg (by decide)]
      exact ys2_c (k' := k') (by omega) (fun j a b => hn j a (by omega))
theorem yt2_c {k d : Nat} {s : Int32 × Int32 × Int32} : ∀ {d' : Nat}, d ≤ d' → (∀ j, k + 1 + d ≤ j → j < k + 1 + d' → L j = false) → yt2 L ok2 cost k s d' = yt2 L ok2 cost k s d
  | 0, h, _ => by rw [show d = 0 by omega]
  | d' + 1, h, hn => by
    by_cases hk : d = d' + 1
    · rw [hk]
    · rw [yt2_s, hn (k + 1 + d') (by omega) (by omega), Bool.false_and, if_neg (by decide)]
      exact yt2_c (d' := d') (by omega) (fun j a b => hn j a (by omega))
theorem yst_ok {s : Int32 × Int32 × Int32} {m c w : Int32} (h : s.1 = (-1) ∨ ¬ s.1 < 0) (hm : ¬ m < 0) : (yst s m c w).1 = (-1) ∨ ¬ (yst s m c w).1 < 0 := by
  unfold yst
  split
  · exact Or.inr hm
  · exact h
theorem ys1_ok : ∀ k, (ys1 L ok cost k).1 = (-1) ∨ ¬ (ys1 L ok cost k).1 < 0
  | 0 => Or.inl rfl
  | k + 1 => by
    rw [ys1_s]
    split
    · exact yst_ok (ys1_ok k) (by decide)
    · exact ys1_ok k
theorem yt2_ok {k : Nat} {s : Int32 × Int32 × Int32} (h : s.1 = (-1) ∨ ¬ s.1 < 0) : ∀ d, (yt2 L ok2 cost k s d).1 = (-1) ∨ ¬ (yt2 L ok2 cost k s d).1 < 0
  | 0 => h
  | d + 1 => by
    rw [yt2_s]
    split
    · exact yst_ok (yt2_ok h d) (by decide)
    · exact yt2_ok h d
theorem ys2_ok : ∀ k, (ys2 L ok2 cost N k).1 = (-1) ∨ ¬ (ys2 L ok2 cost N k).1 < 0
  | 0 => Or.inl rfl
  | k + 1 => by
    rw [ys2_s]
    split
    · exact yt2_ok (ys2_ok k) _
    · exact ys2_ok k
end H
/-- what was found so far, in the class -/
def yrX (s : Int32 × Int32 × Int32) (v : zS) : Prop := v.2.1 13 4 = s.1 ∧ (s.1 ≠ (-1) → v.2.1 13 5 = s.2.1 ∧ v.2.1 13 6 = s.2.2)
def yB46 (a k : Nat) : Prop := a = 13 ∧ 4 ≤ k ∧ k ≤ 6
theorem ysub (x y : Int64) : lg_cmp (x &&& (y ^^^ (-1))) 0 = 0 ↔ ∀ S, S < 64 → yLb x S = true → yLb y S = true := by
  rw [cmp_0, yLb_z]
  constructor
  · intro h S hS z
    have := h S hS
    rw [yLb_and, yLb_not _ hS, z, Bool.true_and] at this
    cases hy : yLb y S with
    | true => rfl
    | false => rw [hy] at this; cases this
  · intro h S hS
    rw [yLb_and, yLb_not _ hS]
    cases hx : yLb x S with
    | false => rfl
    | true => rw [h S hS hx]; rfl
section S
variable {n p rl : Nat} {e : Nat → Nat → Int32}
theorem X_keep {v : zS} {s : Int32 × Int32 × Int32} {m c w : Int32} (hf : zFr v) (h : yrX s v) : ∃ v', F_Course_keepCheaper v 13 m c w = some v' ∧ yNs yB46 v v' ∧ yrX (yst s m c w) v' := by
  have f1 : zFr (zuI v 13 4 m) := fr_uI hf
  have f2 : zFr (zuI (zuI v 13 4 m) 13 5 c) := fr_uI f1
  have hw : yNs yB46 v (zuI (zuI (zuI v 13 4 m) 13 5 c) 13 6 w) := yNs_w (yNs_w (yNs_w (yNs_rf hf) ⟨rfl, by decide, by decide⟩) ⟨rfl, by decide, by decide⟩) ⟨rfl, by decide, by decide⟩
  have hr : yrX (m, c, w) (zuI (zuI (zuI v 13 4 m) 13 5 c) 13 6 w) := by
    refine ⟨?_, fun _ => ⟨?_, ?_⟩⟩
    · rw [uI_at, if_neg (by omega), uI_at, if_neg (by omega), uI_at, if_pos ⟨rfl, rfl⟩]
    · rw [uI_at, if_neg (by omega), uI_at, if_pos ⟨rfl, rfl⟩]
    · rw [uI_at, if_pos ⟨rfl, rfl⟩]
  unfold F_Course_keepCheaper yst
  rw [gI_13 hf, zb_some, h.1]
  by_cases h1 : s.1 = (-1)
  · rw [if_pos h1, if_pos (Or.inl h1), pI_13 hf, zb_some, pI_13 f1, zb_some, pI_13 f2, zb_some]
    exact ⟨_, rfl, hw, hr⟩
  · rw [if_neg h1, gI_13 hf, zb_some, (h.2 h1).1]
    by_cases h2 : s.2.1 ≤ c
    · rw [if_pos h2, if_neg (fun z => z.elim h1 (fun y => absurd h2 (Int32.not_le.mpr y)))]
      exact ⟨v, rfl, yNs_rf hf, h⟩
    · rw [if_neg h2, if_pos (Or.inr (Int32.not_le.mp h2)), pI_13 hf, zb_some, pI_13 f1, zb_some, pI_13 f2, zb_some]
      exact ⟨_, rfl, hw, hr⟩
theorem yCr_46 {v v' : zS} {k : Nat} (h : yNs yB46 v v') (hc : yCr e n p rl k v) : yCr e n p rl k v' := by
  refine ⟨(h.2.2.2 13 0 (by unfold yB46; omega)).trans hc.1, fun j hj hl => ?_⟩
  obtain ⟨c1, c2, c3⟩ := hc.2 j hj hl
  refine ⟨(h.2.2.2 14 _ (by unfold yB46; omega)).trans c1, (h.2.2.2 15 _ (by unfold yB46; omega)).trans c2, fun S hS => ?_⟩
  rw [h.2.2.1]
  exact c3 S hS
theorem X_seek1 {v : zS} {a1 : Int64} {ok : Nat → Bool} (hp : p ≤ 7) (hn : n ≤ 6) (hf : zFr v) (hc : yCr e n p rl (10 * p) v) (hs : yrX (-1, 0, 0) v) (hok : ∀ k, yIs e n p k = true → (ok k = true ↔ ∀ S, S < 64 → yLb a1 S = true → yhb (zCan e) n k S = true)) : ∃ v', F_Course_seekOne v 13 a1 = some v' ∧ yNs yB46 v v' ∧ yrX (ys1 (yIs e n p) ok (fun k => zCost e rl (k / 10) (k % 10)) (10 * p)) v' := by
  have h42 : yCt e n p (10 * p) ≤ 42 := by have := yCt_10 (e := e) (p := p) hn p; omega
  unfold F_Course_seekOne
  refine fix2_p (yCt e n p (10 * p)) (fun i w x => yNs yB46 v w ∧ x = nI i ∧ ∃ k, k ≤ 10 * p ∧ yCt e n p k = i ∧ yrX (ys1 (yIs e n p) ok (fun k => zCost e rl (k / 10) (k % 10)) k) w) (fun o => ∃ v', o = some v' ∧ yNs yB46 v v' ∧ yrX (ys1 (yIs e n p) ok (fun k => zCost e rl (k / 10) (k % 10)) (10 * p)) v') ?_ ?_ (zFU_lt (by omega)) ⟨yNs_rf hf, rfl, 0, Nat.zero_le _, rfl, hs⟩
  · rintro r i w x hi ⟨hw, rfl, k, k1, k2, k3⟩
    have hcw := yCr_46 hw hc
    obtain ⟨k', g1, g2, g3, g4, g5⟩ := zct_nx (P := yIs e n p) k1 (by unfold yCt at k2 hi; omega)
    have g5' : yCt e n p k' = i := g5.trans k2
    rw [← ys1_c (ok := ok) (cost := fun k => zCost e rl (k / 10) (k % 10)) g1 g4] at k3
    obtain ⟨c1, c2, c3⟩ := hcw.2 k' g2 g3
    rw [g5'] at c1 c2 c3
    have hct : yCt e n p (k' + 1) = i + 1 := by
      show zct (yIs e n p) (k' + 1) = i + 1
      rw [zct_s, g3]
      show yCt e n p k' + 1 = i + 1
      rw [g5']
    have hcond := (ysub a1 (w.2.2.1 16 i)).trans ((by
      constructor
      · intro z S hS y; rw [← c3 S hS]; exact z S hS y
      · intro z S hS y; rw [c3 S hS]; exact z S hS y : (∀ S, S < 64 → yLb a1 S = true → yLb (w.2.2.1 16 i) S = true) ↔ ∀ S, S < 64 → yLb a1 S = true → yhb (zCan e) n k' S = true).trans (hok k' g3).symm)
    left
    rw [gI_13 hw.1, zb_some, hcw.1, if_neg (show ¬ nI (yCt e n p (10 * p)) ≤ nI i by rw [nI_leI (by omega) (by omega)]; omega), gR_13_3 hw.1, zb_some, aJ_16 hw.1 (by omega), zb_some, show nI i + 1 = nI (i + 1) from nI_add i 1]
    cases hokk : ok k'
    · rw [if_neg (fun z => by have := hcond.mp z; rw [hokk] at this; cases this)]
      refine ⟨w, nI (i + 1), ⟨hw, rfl, k' + 1, by omega, hct, ?_⟩, rfl⟩
      rw [ys1_s, hokk, Bool.and_false, if_neg (by decide)]
      exact k3
    · obtain ⟨w', w1, w2, w3⟩ := X_keep (m := 1) (c := nI (zCost e rl (k' / 10) (k' % 10))) (w := nI k') hw.1 k3
      rw [if_pos (hcond.mpr hokk), gR_13_2 hw.1, zb_some, aI_15 hw.1 (by omega), zb_some, gR_13_1 hw.1, zb_some, aI_14 hw.1 (by omega), zb_some, fo_13 hw.1, zb_some, c1, c2, w1, zb_some]
      refine ⟨w', nI (i + 1), ⟨yNs_tr hw w2, rfl, k' + 1, by omega, hct, ?_⟩, rfl⟩
      rw [ys1_s, hokk, g3, if_pos (by decide)]
      exact w3
  · rintro r w x ⟨hw, rfl, k, k1, k2, k3⟩
    have hcw := yCr_46 hw hc
    refine ⟨w, ?_, hw, ?_⟩
    · rw [gI_13 hw.1, zb_some, hcw.1, if_pos (Int32.le_refl _)]
    · rw [ys1_c k1]
      · exact k3
      · intro j a b
        rw [ytf]
        intro z
        have h1 := yCt_lt (n := n) (p := p) b z
        have h2 := zct_mn (P := yIs e n p) a
        unfold yCt at h1 h2 k2
        omega
theorem X_seek2 {v : zS} {a1 a2 : Int64} {ok2 : Nat → Nat → Bool} (hp : p ≤ 7) (hn : n ≤ 6) (hf : zFr v) (hc : yCr e n p rl (10 * p) v) (hs : yrX (-1, 0, 0) v) (hok : ∀ k j, yIs e n p k = true → yIs e n p j = true → (ok2 k j = true ↔ (∀ S, S < 64 → yLb a1 S = true → (yhb (zCan e) n k S || yhb (zCan e) n j S) = true) ∧ ∀ S, S < 64 → yLb a2 S = true → (!decide (k / 10 = j / 10) && (yhb (zCan e) n k S && yhb (zCan e) n j S)) = true)) : ∃ v', F_Course_seekTwo v 13 a1 a2 = some v' ∧ yNs yB46 v v' ∧ yrX (ys2 (yIs e n p) ok2 (fun k => zCost e rl (k / 10) (k % 10)) (10 * p) (10 * p)) v' := by
  have h42 : yCt e n p (10 * p) ≤ 42 := by have := yCt_10 (e := e) (p := p) hn p; omega
  generalize hcost : (fun k => zCost e rl (k / 10) (k % 10)) = cost
  have hce : ∀ k, zCost e rl (k / 10) (k % 10) = cost k := fun k => by rw [← hcost]
  generalize hsz : yCt e n p (10 * p) = sz at h42
  unfold F_Course_seekTwo
  refine fix2_p sz (fun i w x => yNs yB46 v w ∧ x = nI i ∧ ∃ k, k ≤ 10 * p ∧ yCt e n p k = i ∧ yrX (ys2 (yIs e n p) ok2 cost (10 * p) k) w) (fun o => ∃ v', o = some v' ∧ yNs yB46 v v' ∧ yrX (ys2 (yIs e n p) ok2 cost (10 * p) (10 * p)) v') ?_ ?_ (zFU_lt (by omega)) ⟨yNs_rf hf, rfl, 0, Nat.zero_le _, rfl, hs⟩
  · rintro r i w x hi ⟨hw, rfl, k, k1, k2, k3⟩
    have hcw := yCr_46 hw hc
    obtain ⟨k', g1, g2, g3, g4, g5⟩ := zct_nx (P := yIs e n p) k1 (by unfold yCt at k2 hsz; omega)
    have g5' : yCt e n p k' = i := g5.trans k2
    rw [← ys2_c (ok2 := ok2) (cost := cost) (N := 10 * p) g1 g4] at k3
    have hct : yCt e n p (k' + 1) = i + 1 := by
      show zct (yIs e n p) (k' + 1) = i + 1
      rw [zct_s, g3]
      show yCt e n p k' + 1 = i + 1
      rw [g5']
    rw [gI_13 hw.1, zb_some, hcw.1, hsz, if_neg (show ¬ nI sz ≤ nI i by rw [nI_leI (by omega) (by omega)]; omega), show nI i + 1 = nI (i + 1) from nI_add i 1]
    left
    refine fix2_p (sz - (i + 1)) (fun t w x => yNs yB46 v w ∧ x = nI (i + 1 + t) ∧ ∃ d, k' + 1 + d ≤ 10 * p ∧ yCt e n p (k' + 1 + d) = i + 1 + t ∧ yrX (yt2 (yIs e n p) ok2 cost k' (ys2 (yIs e n p) ok2 cost (10 * p) k') d) w) (fun o => ∃ y0 y1, (yNs yB46 v y0 ∧ y1 = nI (i + 1) ∧ ∃ k, k ≤ 10 * p ∧ yCt e n p k = i + 1 ∧ yrX (ys2 (yIs e n p) ok2 cost (10 * p) k) y0) ∧ o = r y0 y1) ?_ ?_ (zFU_lt (by omega)) ⟨hw, rfl, 0, by omega, hct, k3⟩
    · rintro r2 t w x ht ⟨hw, rfl, d, d1, d2, d3⟩
      have hcw := yCr_46 hw hc
      obtain ⟨j, b1, b2', b3, b4, b5⟩ := zct_nx (P := yIs e n p) d1 (by unfold yCt at d2 hsz; omega)
      have b5' : yCt e n p j = i + 1 + t := b5.trans d2
      obtain ⟨d', rfl⟩ : ∃ d', j = k' + 1 + d' := ⟨j - (k' + 1), by omega⟩
      rw [← yt2_c (ok2 := ok2) (cost := cost) (s := ys2 (yIs e n p) ok2 cost (10 * p) k') (show d ≤ d' by omega) b4] at d3
      obtain ⟨c1, c2, c3⟩ := hcw.2 k' g2 g3
      rw [g5'] at c1 c2 c3
      rw [hce] at c2
      obtain ⟨e1, e2, e3⟩ := hcw.2 _ b2' b3
      rw [b5'] at e1 e2 e3
      rw [hce] at e2
      have hct2 : yCt e n p (k' + 1 + (d' + 1)) = i + 1 + (t + 1) := by
        show zct (yIs e n p) (k' + 1 + d' + 1) = _
        rw [zct_s, b3]
        show yCt e n p (k' + 1 + d') + 1 = _
        rw [b5']; omega
      left
      rw [gI_13 hw.1, zb_some, hcw.1, hsz, if_neg (show ¬ nI sz ≤ nI (i + 1 + t) by rw [nI_leI (by omega) (by omega)]; omega), gR_13_1 hw.1, zb_some, aI_14 hw.1 (by omega), zb_some, zb_some, aI_14 hw.1 (by omega), zb_some, c1, e1, gR_13_3 hw.1, show (10 : Int32) = nI 10 from rfl, q_div (by omega) (by omega) (by omega), q_div (by omega) (by omega) (by omega)]
      generalize htw : (if k' / 10 = (k' + 1 + d') / 10 then (0 : Int64) else w.2.2.1 16 i &&& w.2.2.1 16 (i + 1 + t)) = tw
      have htwb : ∀ S, S < 64 → yLb tw S = (!decide (k' / 10 = (k' + 1 + d') / 10) && (yhb (zCan e) n k' S && yhb (zCan e) n (k' + 1 + d') S)) := by
        intro S hS
        rw [← htw]
        by_cases z : k' / 10 = (k' + 1 + d') / 10
        · rw [if_pos z, yLb_0, decide_eq_true z]; rfl
        · rw [if_neg z, yLb_and, c3 S hS, e3 S hS, decide_eq_false z]; rfl
      have hj : ∀ (K : Int64 → Option zS), zjn1 (fun (j14 : Int64 → Option (zS)) => if nI (k' / 10) = nI ((k' + 1 + d') / 10) then (j14 0) else ((some (some 16) : Option (Option Nat)).bind fun v30 => (zaJ w v30 (nI i)).bind fun v31 => (some (some 16) : Option (Option Nat)).bind fun v32 => (zaJ w v32 (nI (i + 1 + t))).bind fun v33 => j14 (v31 &&& v33))) K = K tw := by
        intro K
        rw [zjn1_eq, ← htw]
        by_cases z : k' / 10 = (k' + 1 + d') / 10
        · rw [if_pos (show nI (k' / 10) = nI ((k' + 1 + d') / 10) by rw [z]), if_pos z]
        · rw [if_neg (show ¬ nI (k' / 10) = nI ((k' + 1 + d') / 10) from fun y => z (nI_inj (by omega) (by omega) y)), if_neg z, zb_some, aJ_16 hw.1 (by omega), zb_some, zb_some, aJ_16 hw.1 (by omega), zb_some]
      rw [hj, zb_some, aJ_16 hw.1 (by omega), zb_some, zb_some, aJ_16 hw.1 (by omega), zb_some, show nI (i + 1 + t) + 1 = nI (i + 1 + (t + 1)) from nI_add (i + 1 + t) 1]
      have hcond1 : lg_cmp (a1 &&& ((w.2.2.1 16 i ||| w.2.2.1 16 (i + 1 + t)) ^^^ (-1))) 0 = 0 ↔ ∀ S, S < 64 → yLb a1 S = true → (yhb (zCan e) n k' S || yhb (zCan e) n (k' + 1 + d') S) = true := by
        rw [ysub]
        constructor
        · intro z S hS y
          have := z S hS y
          rw [yLb_or, c3 S hS, e3 S hS] at this
          exact this
        · intro z S hS y
          rw [yLb_or, c3 S hS, e3 S hS]
          exact z S hS y
      have hcond2 : lg_cmp (a2 &&& (tw ^^^ (-1))) 0 = 0 ↔ ∀ S, S < 64 → yLb a2 S = true → (!decide (k' / 10 = (k' + 1 + d') / 10) && (yhb (zCan e) n k' S && yhb (zCan e) n (k' + 1 + d') S)) = true := by
        rw [ysub]
        constructor
        · intro z S hS y
          rw [← htwb S hS]; exact z S hS y
        · intro z S hS y
          rw [htwb S hS]; exact z S hS y
      have hok' := hok k' (k' + 1 + d') g3 b3
      rw [← hcond1, ← hcond2] at hok'
      cases hokk : ok2 k' (k' + 1 + d')
      · have hno : ¬ (lg_cmp (a1 &&& ((w.2.2.1 16 i ||| w.2.2.1 16 (i + 1 + t)) ^^^ (-1))) 0 = 0 ∧ lg_cmp (a2 &&& (tw ^^^ (-1))) 0 = 0) := fun z => by
          have := hok'.mpr z
          rw [hokk] at this; cases this
        have hsame : yrX (yt2 (yIs e n p) ok2 cost k' (ys2 (yIs e n p) ok2 cost (10 * p) k') (d' + 1)) w := by
          rw [yt2_s, hokk, Bool.and_false, if_neg (by decide)]
          exact d3
        by_cases z1 : lg_cmp (a1 &&& ((w.2.2.1 16 i ||| w.2.2.1 16 (i + 1 + t)) ^^^ (-1))) 0 = 0
        · rw [if_pos z1, if_neg (fun z2 => hno ⟨z1, z2⟩)]
          exact ⟨w, nI (i + 1 + (t + 1)), ⟨hw, rfl, d' + 1, by omega, hct2, hsame⟩, rfl⟩
        · rw [if_neg z1]
          exact ⟨w, nI (i + 1 + (t + 1)), ⟨hw, rfl, d' + 1, by omega, hct2, hsame⟩, rfl⟩
      · obtain ⟨z1, z2⟩ := hok'.mp hokk
        obtain ⟨w', w1, w2, w3⟩ := X_keep (m := 2) (c := nI (cost k' + cost (k' + 1 + d'))) (w := nI (100 * k' + (k' + 1 + d'))) hw.1 d3
        rw [if_pos z1, if_pos z2, gR_13_2 hw.1, zb_some, aI_15 hw.1 (by omega), zb_some, zb_some, aI_15 hw.1 (by omega), zb_some, zb_some, aI_14 hw.1 (by omega), zb_some, zb_some, aI_14 hw.1 (by omega), zb_some, fo_13 hw.1, zb_some, c1, e1, c2, e2, nI_add, show (100 : Int32) = nI 100 from rfl, pk_mul, nI_add, w1, zb_some]
        refine ⟨w', nI (i + 1 + (t + 1)), ⟨yNs_tr hw w2, rfl, d' + 1, by omega, hct2, ?_⟩, rfl⟩
        rw [yt2_s, hokk, b3, if_pos (by decide)]
        exact w3
    · rintro r2 w x ⟨hw, rfl, d, d1, d2, d3⟩
      have hcw := yCr_46 hw hc
      refine ⟨w, nI (i + 1), ⟨hw, rfl, k' + 1, by omega, hct, ?_⟩, ?_⟩
      · rw [ys2_s, g3, if_pos rfl, yt2_c (d := d) (by omega)]
        · exact d3
        · intro j a b
          rw [ytf]
          intro z
          have h1 := yCt_lt (n := n) (p := p) (show j < 10 * p by omega) z
          have h2 := zct_mn (P := yIs e n p) a
          unfold yCt at h1 h2 d2 hsz
          omega
      · rw [gI_13 hw.1, zb_some, hcw.1, hsz, if_pos (show nI sz ≤ nI (i + 1 + (sz - (i + 1))) by rw [show i + 1 + (sz - (i + 1)) = sz by omega]; exact Int32.le_refl _)]
  · rintro r w x ⟨hw, rfl, k, k1, k2, k3⟩
    have hcw := yCr_46 hw hc
    refine ⟨w, ?_, hw, ?_⟩
    · rw [gI_13 hw.1, zb_some, hcw.1, hsz, if_pos (Int32.le_refl _)]
    · rw [ys2_c k1]
      · exact k3
      · intro j a b
        rw [ytf]
        intro z
        have h1 := yCt_lt (n := n) (p := p) b z
        have h2 := zct_mn (P := yIs e n p) a
        unfold yCt at h1 h2 k2 hsz
        omega
end S
