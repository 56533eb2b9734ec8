-- ===== well, cost, pay: both =====
def zAc (e : Nat → Nat → Int32) (rl part j : Nat) : Int32 := e 85 ((e 86 (3 * rl + part)).toNatClampNeg + j)
def zAm (e : Nat → Nat → Int32) (rl part : Nat) : Nat := (e 87 (3 * rl + part)).toNatClampNeg - (e 86 (3 * rl + part)).toNatClampNeg
/-- what a part of a text comes to for one and a post -/
def zVal (e : Nat → Nat → Int32) (rl part w q : Nat) : Int32 := (zst (zNm e w q) (zAc e rl part) (zAm e rl part)).headD 0
/-- changed: the class's names and piles alone -/
def zNX (μ μ1 : zS) : Prop := zFr μ1 ∧ μ1.1 = μ.1 ∧ μ1.2.2 = μ.2.2 ∧ ∀ a k, a ≠ 5 → ¬ (42 ≤ a ∧ a ≤ 62 ∧ (a - 42) % 4 = 0) → μ1.2.1 a k = μ.2.1 a k
/-- changed: the reference's names and pile alone -/
def zNM (μ μ1 : zS) : Prop := zFr μ1 ∧ μ1.1 = μ.1 ∧ μ1.2.2 = μ.2.2 ∧ ∀ a k, a ≠ 89 → a ≠ 90 → μ1.2.1 a k = μ.2.1 a k
def zhd (lo hi v : Int32) : Int32 := if lo ≤ v then (if v ≤ hi then v else hi) else lo
theorem X_bnd {u : zS} {lo hi v : Int32} (h : lo ≤ hi) : F_X_bounded u v lo hi = some (zhd lo hi v) := by
  unfold F_X_bounded zhd zmax zmin
  congr 1
  by_cases h1 : lo ≤ v <;> by_cases h2 : v ≤ hi <;> by_cases h3 : v < hi <;> by_cases h4 : lo < v <;> by_cases h5 : lo < hi <;> simp only [h1, h2, h3, h4, h5, if_true, if_false] <;> simp only [fa_lt, fa_le] at h h1 h2 h3 h4 h5 <;> first | rfl | (exfalso; omega) | (apply Int32.toInt_inj.mp; omega)
theorem M_hld {u : zS} {lo hi v : Int32} : F_M_held u v lo hi = some (zhd lo hi v) := by
  unfold F_M_held zhd
  split
  · split <;> rfl
  · rfl
theorem zhd_rg {lo hi : Nat} {v : Int32} (h : lo ≤ hi) (hh : hi < 2 ^ 31) : ∃ k, k ≤ hi ∧ lo ≤ k ∧ zhd (nI lo) (nI hi) v = nI k := by
  unfold zhd
  by_cases h1 : nI lo ≤ v
  · rw [if_pos h1]
    by_cases h2 : v ≤ nI hi
    · rw [if_pos h2]
      have h0 : (0 : Int32) ≤ v := by
        rw [fa_le] at h1 ⊢
        rw [nI_toInt (by omega)] at h1
        rw [show (0 : Int32).toInt = 0 by decide]
        omega
      obtain ⟨k, hk, rfl⟩ := nI_ex hh ⟨h0, h2⟩
      exact ⟨k, hk, (nI_leI (by omega) (by omega)).mp h1, rfl⟩
    · rw [if_neg h2]; exact ⟨hi, Nat.le_refl _, h, rfl⟩
  · rw [if_neg h1]; exact ⟨lo, h, Nat.le_refl _, rfl⟩
/-- the same data -/
def zDt (e e' : Nat → Nat → Int32) : Prop := ∀ a k, (74 ≤ a ∧ a ≤ 88) ∨ (a = 73 ∧ (k = 1 ∨ k = 4 ∨ k = 10 ∨ k = 16 ∨ k = 17)) → e' a k = e a k
theorem zDt_X {μ μ1 : zS} (h : zNX μ μ1) : zDt μ.2.1 μ1.2.1 := fun a k hak => h.2.2.2 a k (by omega) (by omega)
theorem zDt_M {μ μ1 : zS} (h : zNM μ μ1) : zDt μ.2.1 μ1.2.1 := fun a k hak => h.2.2.2 a k (by omega) (by omega)
theorem zCan_c {e e' : Nat → Nat → Int32} (h : zDt e e') (w q : Nat) : zCan e' w q = zCan e w q := by
  unfold zCan
  rw [h 73 10 (by omega), h 76 _ (by omega), h 77 _ (by omega), h 78 _ (by omega), h 83 _ (by omega), h 82 _ (by omega), h 81 _ (by omega), h 74 _ (by omega), h 75 _ (by omega)]
theorem zVal_c {e e' : Nat → Nat → Int32} (h : zDt e e') (rl part w q : Nat) : zVal e' rl part w q = zVal e rl part w q := by
  have h1 : zNm e' w q = zNm e w q := by
    funext k
    unfold zNm
    rw [h 77 _ (by omega), h 78 _ (by omega), h 73 10 (by omega), h 82 _ (by omega), h 81 _ (by omega), h 74 _ (by omega), h 75 _ (by omega), h 73 1 (by omega)]
    have : (fun j => !decide (e' 82 (6 * w + j) = 0)) = (fun j => !decide (e 82 (6 * w + j) = 0)) := by
      funext j
      rw [h 82 _ (by omega)]
    rw [this]
  have h2 : zAc e' rl part = zAc e rl part := by
    funext j
    unfold zAc
    rw [h 86 _ (by omega), h 85 _ (by omega)]
  unfold zVal zAm
  rw [h1, h2, h 86 _ (by omega), h 87 _ (by omega)]
section S
variable {n p yr tx rl tp c : Nat} {μ : zS}
theorem zAg_X {μ1 : zS} (h : zNX μ μ1) : zAg tx μ μ1 := by
  refine ⟨h.1, fun a k hk => h.2.2.2 a k ?_ ?_⟩
  · unfold zess at hk; omega
  · unfold zess at hk; omega
theorem zAg_M {μ1 : zS} (h : zNM μ μ1) : zAg tx μ μ1 := by
  refine ⟨h.1, fun a k hk => h.2.2.2 a k ?_ ?_⟩
  · unfold zess at hk; omega
  · unfold zess at hk; omega
theorem zNX_rf (h : zFr μ) : zNX μ μ := ⟨h, rfl, rfl, fun _ _ _ _ => rfl⟩
theorem zNM_rf (h : zFr μ) : zNM μ μ := ⟨h, rfl, rfl, fun _ _ _ _ => rfl⟩
theorem zNX_tr {μ1 μ2 : zS} (h : zNX μ μ1) (h2 : zNX μ1 μ2) : zNX μ μ2 := ⟨h2.1, h2.2.1.trans h.2.1, h2.2.2.1.trans h.2.2.1, fun a k x y => (h2.2.2.2 a k x y).trans (h.2.2.2 a k x y)⟩
theorem zNM_tr {μ1 μ2 : zS} (h : zNM μ μ1) (h2 : zNM μ1 μ2) : zNM μ μ2 := ⟨h2.1, h2.2.1.trans h.2.1, h2.2.2.1.trans h.2.2.1, fun a k x y => (h2.2.2.2 a k x y).trans (h.2.2.2 a k x y)⟩
theorem X_val {w q part : Nat} (h : zSt n p yr tx rl tp c μ) (hw : w < p) (hq : q < n) (hp : part < 3) : ∃ μ1, F_X_valueOf μ 0 (nI part) (some (18 + 3 * w)) (nI q) = some (zVal μ.2.1 rl part w q, μ1) ∧ zNX μ μ1 := by
  obtain ⟨hf, hP, hPe, hAs, hTa, hBa, hYr, hTp, hTx, hIm, hSh, hLt⟩ := id h
  have hp7 := hPe.1
  have hrl : rl < 6 := by have := hTx.2.1; have := hTx.2.2.2.2.1; omega
  obtain ⟨x0, x1, x2, x3, x4, x5, e1, e2⟩ := X_desc h hw hq
  have f1 : zFr (zw6 μ 5 x0 x1 x2 x3 x4 x5) := fr_uI (fr_uI (fr_uI (fr_uI (fr_uI (fr_uI hf)))))
  have o1 : ∀ a k, a ≠ 5 → (zw6 μ 5 x0 x1 x2 x3 x4 x5).2.1 a k = μ.2.1 a k := fun a k ha => zw6_off ha
  have q1 : (zw6 μ 5 x0 x1 x2 x3 x4 x5).1 = μ.1 := rfl
  have q2 : (zw6 μ 5 x0 x1 x2 x3 x4 x5).2.2 = μ.2.2 := rfl
  generalize zw6 μ 5 x0 x1 x2 x3 x4 x5 = u at *
  obtain ⟨t1, t2, t3, g1, g2, g3, g4, g5, g6, g7⟩ := hTx.2.2.2.2.2.2.2 rl hrl hTx.2.2.2.2.1 part hp
  generalize hs0 : (if part = 0 then 0 else (μ.2.1 (41 + 4 * rl) (part - 1)).toNatClampNeg) = s0 at *
  have hm : zAm μ.2.1 rl part = (μ.2.1 (41 + 4 * rl) part).toNatClampNeg - s0 := by unfold zAm; omega
  have hv := X_text (μ := u) (nm := zNm μ.2.1 w q) (ac := zAc μ.2.1 rl part) (t := rl) (part := part) (s0 := s0) (s1 := (μ.2.1 (41 + 4 * rl) part).toNatClampNeg) (m := zAm μ.2.1 rl part) f1 hrl hp
    (fun z => by rw [← hs0, if_pos z])
    (fun z => by
      rw [o1 _ _ (by omega), ← hs0, if_neg z]
      exact (hTx.2.2.2.2.2.2.2 rl hrl hTx.2.2.2.2.1 (part - 1) (by omega)).1.2)
    (by rw [o1 _ _ (by omega)]; exact t1.2) (by omega) g2
    (fun j hj => by
      rw [o1 _ _ (by omega), g6 j (by omega) (by omega)]; rfl)
    (by rw [hm]; exact g7) e2
  refine ⟨zmem (zNm μ.2.1 w q) (zAc μ.2.1 rl part) (42 + 4 * rl) u (zAm μ.2.1 rl part), ?_, zmem_fr f1 _, ?_, ?_, ?_⟩
  · unfold F_X_valueOf
    rw [gR_0_0 hf, zb_some, gR_0_7 hf, zb_some, fo_P hf (by omega), zb_some, e1, zb_some, gR_0_4 f1, zb_some, gI_0 f1, zb_some, o1 _ _ (by omega), hTx.2.2.2.2.2.1, aR_4 f1 hrl, zb_some, gR_0_7 f1, zb_some, fo_T f1 hrl, zb_some, hv]
    rfl
  · rw [(zmem_off _).1, q1]
  · rw [(zmem_off _).2.1, q2]
  · intro a k ha hb
    rw [(zmem_off _).2.2 a k (by omega), o1 a k ha]
theorem M_val {w q part : Nat} (h : zSt n p yr tx rl tp c μ) (hw : w < p) (hq : q < n) (hp : part < 3) : ∃ μ1, F_M_says μ 73 (nI part) (nI w) (nI q) = some (zVal μ.2.1 rl part w q, μ1) ∧ zNM μ μ1 := by
  obtain ⟨hf, hP, hPe, hAs, hTa, hBa, hYr, hTp, hTx, hIm, hSh, hLt⟩ := id h
  have hrl : rl < 6 := by have := hTx.2.1; have := hTx.2.2.2.2.1; omega
  obtain ⟨t1, t2, t3, g1, g2, g3, g4, g5, g6, g7⟩ := hTx.2.2.2.2.2.2.2 rl hrl hTx.2.2.2.2.1 part hp
  generalize hs0 : (if part = 0 then 0 else (μ.2.1 (41 + 4 * rl) (part - 1)).toNatClampNeg) = s0 at *
  have hm : zAm μ.2.1 rl part = (μ.2.1 (41 + 4 * rl) part).toNatClampNeg - s0 := by unfold zAm; omega
  obtain ⟨x0, x1, x2, x3, x4, x5, hv⟩ := M_says (ac := zAc μ.2.1 rl part) (f0 := (μ.2.1 86 (3 * rl + part)).toNatClampNeg) (m := zAm μ.2.1 rl part) h hw hq hp t2.2
    (by rw [show (μ.2.1 86 (3 * rl + part)).toNatClampNeg + zAm μ.2.1 rl part = (μ.2.1 87 (3 * rl + part)).toNatClampNeg by unfold zAm; omega]; exact t3.2)
    (by have := t3.1; unfold zAm; omega) (fun j _ => rfl) (by rw [hm]; exact g7)
  refine ⟨_, hv, zmem_fr (fr_uI (fr_uI (fr_uI (fr_uI (fr_uI (fr_uI hf)))))) _, ?_, ?_, ?_⟩
  · rw [(zmem_off _).1]; rfl
  · rw [(zmem_off _).2.1]; rfl
  · intro a k ha hb
    rw [(zmem_off _).2.2 a k ha, zw6_off hb]
def zWell (e : Nat → Nat → Int32) (rl w q : Nat) : Nat := (zhd 0 99 (zVal e rl 0 w q)).toNatClampNeg
def zCost (e : Nat → Nat → Int32) (rl w q : Nat) : Nat := (zhd 1 99 (zVal e rl 1 w q)).toNatClampNeg
def zPayV (e : Nat → Nat → Int32) (rl w q : Nat) : Nat := (zhd 0 999 (zVal e rl 2 w q)).toNatClampNeg
theorem zWell_e (e : Nat → Nat → Int32) (rl w q : Nat) : zhd 0 99 (zVal e rl 0 w q) = nI (zWell e rl w q) ∧ zWell e rl w q ≤ 99 := by
  obtain ⟨k, h1, h2, h3⟩ := zhd_rg (lo := 0) (hi := 99) (v := zVal e rl 0 w q) (by decide) (by decide)
  unfold zWell
  rw [show zhd 0 99 (zVal e rl 0 w q) = nI k from h3, nI_clamp (by omega)]
  exact ⟨rfl, h1⟩
theorem zCost_e (e : Nat → Nat → Int32) (rl w q : Nat) : zhd 1 99 (zVal e rl 1 w q) = nI (zCost e rl w q) ∧ zCost e rl w q ≤ 99 ∧ 1 ≤ zCost e rl w q := by
  obtain ⟨k, h1, h2, h3⟩ := zhd_rg (lo := 1) (hi := 99) (v := zVal e rl 1 w q) (by decide) (by decide)
  unfold zCost
  rw [show zhd 1 99 (zVal e rl 1 w q) = nI k from h3, nI_clamp (by omega)]
  exact ⟨rfl, h1, h2⟩
theorem zPay_e (e : Nat → Nat → Int32) (rl w q : Nat) : zhd 0 999 (zVal e rl 2 w q) = nI (zPayV e rl w q) ∧ zPayV e rl w q ≤ 999 := by
  obtain ⟨k, h1, h2, h3⟩ := zhd_rg (lo := 0) (hi := 999) (v := zVal e rl 2 w q) (by decide) (by decide)
  unfold zPayV
  rw [show zhd 0 999 (zVal e rl 2 w q) = nI k from h3, nI_clamp (by omega)]
  exact ⟨rfl, h1⟩
theorem X_well {w q : Nat} (h : zSt n p yr tx rl tp c μ) (hw : w < p) (hq : q < n) : ∃ μ1, F_X_wellOf μ 0 (some (18 + 3 * w)) (nI q) = some (nI (zWell μ.2.1 rl w q), μ1) ∧ zNX μ μ1 := by
  obtain ⟨μ1, h1, h2⟩ := X_val h hw hq (part := 0) (by decide)
  refine ⟨μ1, ?_, h2⟩
  unfold F_X_wellOf
  rw [fo_0 h.1, zb_some, show (0 : Int32) = nI 0 from rfl, h1, zk_some, X_bnd (by decide), zb_some]
  rw [← (zWell_e μ.2.1 rl w q).1]; rfl
theorem X_cost {w q : Nat} (h : zSt n p yr tx rl tp c μ) (hw : w < p) (hq : q < n) : ∃ μ1, F_X_costOf μ 0 (some (18 + 3 * w)) (nI q) = some (nI (zCost μ.2.1 rl w q), μ1) ∧ zNX μ μ1 := by
  obtain ⟨μ1, h1, h2⟩ := X_val h hw hq (part := 1) (by decide)
  refine ⟨μ1, ?_, h2⟩
  unfold F_X_costOf
  rw [fo_0 h.1, zb_some, show (1 : Int32) = nI 1 from rfl, h1, zk_some, X_bnd (by decide), zb_some]
  rw [← (zCost_e μ.2.1 rl w q).1]; rfl
theorem M_well {w q : Nat} (h : zSt n p yr tx rl tp c μ) (hw : w < p) (hq : q < n) : ∃ μ1, F_M_wellOf μ 73 (nI w) (nI q) = some (nI (zWell μ.2.1 rl w q), μ1) ∧ zNM μ μ1 := by
  obtain ⟨μ1, h1, h2⟩ := M_val h hw hq (part := 0) (by decide)
  refine ⟨μ1, ?_, h2⟩
  unfold F_M_wellOf
  rw [fo_73 h.1, zb_some, show (0 : Int32) = nI 0 from rfl, h1, zk_some, M_hld, zb_some]
  rw [← (zWell_e μ.2.1 rl w q).1]; rfl
theorem M_cost {w q : Nat} (h : zSt n p yr tx rl tp c μ) (hw : w < p) (hq : q < n) : ∃ μ1, F_M_costOf μ 73 (nI w) (nI q) = some (nI (zCost μ.2.1 rl w q), μ1) ∧ zNM μ μ1 := by
  obtain ⟨μ1, h1, h2⟩ := M_val h hw hq (part := 1) (by decide)
  refine ⟨μ1, ?_, h2⟩
  unfold F_M_costOf
  rw [fo_73 h.1, zb_some, show (1 : Int32) = nI 1 from rfl, h1, zk_some, M_hld, zb_some]
  rw [← (zCost_e μ.2.1 rl w q).1]; rfl
end S
