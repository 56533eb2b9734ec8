-- ===== text =====
def yWT (t a k : Nat) : Prop := a = 71 ∨ (a = 39 + 4 * t ∧ k = 1) ∨ a = 40 + 4 * t ∨ a = 41 + 4 * t ∨ (a = 0 ∧ k = 5) ∨ (a = 73 ∧ (21 ≤ k ∧ k ≤ 28 ∨ k = 15 ∨ k = 16)) ∨ (a = 85 ∧ 510 * t ≤ k) ∨ ((a = 86 ∨ a = 87) ∧ 3 * t ≤ k)
theorem text_rel {n p yr tx rl tp c tx' : Nat} {e e' : Nat → Nat → Int32} (ht : tx < 6) (h : zRel n p yr tx rl tp c e) (hE : ∀ a k, ¬ yWT tx a k → e' a k = e a k) (h71 : e' 71 0 = 0) (h73 : e' 73 15 = 0) (htx : zTx tx' rl e') (hle : tx ≤ tx') : zRel n p yr tx' rl 0 c e' := by
  obtain ⟨hP, hPe, hAs, hTa, hBa, hYr, hTp, hTx, hIm, hSh, hLt⟩ := h
  have q : ∀ {a k}, ¬ yWT tx a k → e' a k = e a k := fun h => hE _ _ h
  refine ⟨zP_c hP (fun a k z => q (by unfold yWT; omega)), zPe_c hPe (fun a k z => q (by unfold yWT; omega)), zAs_c hAs (fun a k z => q (by unfold yWT; omega)), zTa_c hTa (fun a k z => q (by unfold yWT; omega)), zBa_c hBa (fun a k z => q (by unfold yWT; omega)), zYr_c hYr (fun a k z => q (by unfold yWT; omega)), ⟨by decide, h71, h73, fun k _ hk => absurd hk (by omega)⟩, htx, zIm_m (zIm_c hIm (fun a k z => q (by unfold yWT; omega))) (Nat.le_refl _) (Nat.le_refl _) hle (Nat.le_refl _), zSh_c hSh (fun a k z => q (by unfold yWT; omega)), zLt_c hLt (fun a k z => q (by unfold yWT; omega))⟩
theorem text_new {e : Nat → Nat → Int32} {t : Nat} {S : Nat → Nat} {A : List Int32} (ht : t < 6) (hS0 : S 0 = 0) (hA : A.length ≤ 160) (hp : ∀ p, p < 3 → S p ≤ S (p + 1) ∧ S (p + 1) ≤ A.length ∧ zrun ((List.range (S (p + 1) - S p)).map (fun i => A.getD (S p + i) 0)) 0 = some 1) (h40 : ∀ i, i < A.length → e (40 + 4 * t) i = ztr (A.getD i 0)) (h41 : ∀ p, p < 3 → e (41 + 4 * t) p = nI (S (p + 1))) (h85 : ∀ i, i < A.length → e 85 (510 * t + i) = A.getD i 0) (h86 : ∀ p, p < 3 → e 86 (3 * t + p) = nI (510 * t + S p) ∧ e 87 (3 * t + p) = nI (510 * t + S (p + 1))) : zTt e t := by
  intro part hpart
  obtain ⟨a1, a2, a3⟩ := hp part hpart
  obtain ⟨b1, b2⟩ := h86 part hpart
  have hs0 : (if part = 0 then 0 else (e (41 + 4 * t) (part - 1)).toNatClampNeg) = S part := by
    by_cases z : part = 0
    · rw [if_pos z, z, hS0]
    · rw [if_neg z, h41 (part - 1) (by omega), show part - 1 + 1 = part by omega, nI_clamp (by omega)]
  rw [hs0, h41 part hpart, b1, b2, nI_clamp (show S (part + 1) < 2 ^ 31 by omega), nI_clamp (show 510 * t + S part < 2 ^ 31 by omega), nI_clamp (show 510 * t + S (part + 1) < 2 ^ 31 by omega)]
  refine ⟨zRg_nI (by omega) (by decide), zRg_nI (by omega) (by decide), zRg_nI (by omega) (by decide), a1, by omega, by omega, by omega, by omega, fun j _ hj => ?_, ?_⟩
  · rw [h40 _ (by omega), Nat.add_assoc, h85 _ (by omega)]
  · rw [← a3]
    congr 1
    apply List.map_congr_left
    intro j hj
    have := List.mem_range.mp hj
    rw [Nat.add_assoc, h85 _ (by omega)]
section K
variable {n p yr tx rl tp c : Nat} {μ : zS}
theorem zpR_71 {v : zS} {w : Option Nat} (hf : zFr v) : zpR v 5 (some 71) 2 w = some (zuR v 71 2 w) := by
  unfold zpR
  rw [fo_71 hf]
  rfl
/-- the class begins to read -/
theorem X_beg {B : Nat → Nat} {T t : Nat} {v : zS} (ht : t < 6) (hf : zFr v) (h0 : v.2.1 71 0 = nI T) (hB : yTb B T 72 v.2.1) : ∃ v', F_Reader_read v 71 (some (39 + 4 * t)) = zfix2 yTX zFU v' 0 ∧ gX B T t 0 [] v' ∧ zFr v' ∧ ∀ a k, ¬ yFX t a k → v'.2.1 a k = v.2.1 a k := by
  have f1 : zFr (zuR v 71 2 (some (39 + 4 * t))) := fr_uR hf
  have r1 : (zuR v 71 2 (some (39 + 4 * t))).2.2.2 71 2 = some (39 + 4 * t) := by
    show (if (71 : Nat) = 71 ∧ (2 : Nat) = 2 then some (39 + 4 * t) else v.2.2.2 71 2) = _
    exact if_pos ⟨rfl, rfl⟩
  have f2 : zFr (zuI (zuR v 71 2 (some (39 + 4 * t))) (39 + 4 * t) 1 0) := fr_uI f1
  have f3 : zFr (zuI (zuI (zuR v 71 2 (some (39 + 4 * t))) (39 + 4 * t) 1 0) 71 3 0) := fr_uI f2
  obtain ⟨w, hw⟩ : ∃ w, w = zuI (zuI (zuI (zuR v 71 2 (some (39 + 4 * t))) (39 + 4 * t) 1 0) 71 3 0) 71 7 (-1) := ⟨_, rfl⟩
  have f4 : zFr w := by rw [hw]; exact fr_uI f3
  have off : ∀ a k, ¬ (a = 71 ∧ (k = 3 ∨ k = 7)) → ¬ (a = 39 + 4 * t ∧ k = 1) → w.2.1 a k = v.2.1 a k := by
    intro a k n1 n2
    rw [hw, uI_at, if_neg (by omega), uI_at, if_neg (by omega), uI_at, if_neg (by omega)]
    rfl
  have e3 : w.2.1 71 3 = nI 0 := by rw [hw, uI_at, if_neg (by omega), uI_at, if_pos ⟨rfl, rfl⟩]; rfl
  have e7 : w.2.1 71 7 = (-1) := by rw [hw, uI_at, if_pos ⟨rfl, rfl⟩]
  have e39 : w.2.1 (39 + 4 * t) 1 = 0 := by rw [hw, uI_off (by omega), uI_off (by omega), uI_at, if_pos ⟨rfl, rfl⟩]
  have hw2 : w.2.2.2 71 2 = some (39 + 4 * t) := by rw [hw]; exact r1
  obtain ⟨v', a1, a2, a3⟩ := X_adv (x := 0) f4 (by rw [off _ _ (by omega) (by omega)]; exact h0) (yTb_c hB (fun j => off _ _ (by omega) (by omega))) e3 (Nat.zero_le _)
  have off' : ∀ a k, ¬ yB36 a k → v'.2.1 a k = w.2.1 a k := a2.2.2.2
  refine ⟨v', ?_, ⟨a2.1, ?_, ?_, ?_, a3, ?_, ?_, fun j hj => absurd hj (Nat.not_lt_zero j)⟩, a2.1, fun a k z => ?_⟩
  · unfold F_Reader_read
    rw [zpR_71 hf, zb_some, gR_71_2 f1, zb_some, r1, fo_T f1 ht, zb_some]
    unfold F_Text_clear
    rw [pI_T f1 ht, zb_some, zb_some, pI_71 f2, zb_some, pI_71 f3, zb_some, ← hw, fo_71 f4, zb_some, a1, zb_some]
    rfl
  · rw [a2.2.2.1]; exact hw2
  · rw [off' _ _ (by unfold yB36; omega), off _ _ (by omega) (by omega)]; exact h0
  · exact yTb_c hB (fun j => by rw [off' _ _ (by unfold yB36; omega), off _ _ (by omega) (by omega)])
  · rw [off' _ _ (by unfold yB36; omega)]; exact e7
  · rw [off' _ _ (by unfold yB36; omega)]; exact e39
  · unfold yFX at z
    rw [off' a k (by unfold yB36; omega), off a k (by omega) (by omega)]
/-- the reference begins to read -/
theorem M_beg {B : Nat → Nat} {T t : Nat} {v : zS} (ht : t < 6) (hf : zFr v) (h0 : v.2.1 73 15 = nI T) (h16 : v.2.1 73 16 = nI t) (hB : yTb B T 84 v.2.1) (hL : zLt v.2.1) : ∃ v', F_M_text v 73 = zfix2 yTM zFU v' 0 ∧ gM B T t 0 [] 0 v' ∧ v'.2.1 73 16 = nI t ∧ zFr v' ∧ ∀ a k, ¬ yFM t a k → v'.2.1 a k = v.2.1 a k := by
  have f1 : zFr (zuI v 73 23 0) := fr_uI hf
  have f2 : zFr (zuI (zuI v 73 23 0) 73 26 0) := fr_uI f1
  have f3 : zFr (zuI (zuI (zuI v 73 23 0) 73 26 0) 73 27 0) := fr_uI f2
  have e16 : (zuI (zuI (zuI v 73 23 0) 73 26 0) 73 27 0).2.1 73 16 = nI t := by rw [uI_at, if_neg (by omega), uI_at, if_neg (by omega), uI_at, if_neg (by omega)]; exact h16
  have m5 : (510 : Int32) * nI t = nI (510 * t) := by
    have : ∀ t : Fin 6, (510 : Int32) * nI t.1 = nI (510 * t.1) := by decide +kernel
    exact this ⟨t, ht⟩
  obtain ⟨w, hw⟩ : ∃ w, w = zuI (zuI (zuI (zuI v 73 23 0) 73 26 0) 73 27 0) 73 21 (nI (510 * t)) := ⟨_, rfl⟩
  have f4 : zFr w := by rw [hw]; exact fr_uI f3
  have off : ∀ a k, ¬ (a = 73 ∧ (k = 21 ∨ k = 23 ∨ k = 26 ∨ k = 27)) → w.2.1 a k = v.2.1 a k := by
    intro a k n1
    rw [hw, uI_at, if_neg (by omega), uI_at, if_neg (by omega), uI_at, if_neg (by omega), uI_at, if_neg (by omega)]
  have e23 : w.2.1 73 23 = nI 0 := by rw [hw, uI_at, if_neg (by omega), uI_at, if_neg (by omega), uI_at, if_neg (by omega), uI_at, if_pos ⟨rfl, rfl⟩]; rfl
  have e26 : w.2.1 73 26 = nI 0 := by rw [hw, uI_at, if_neg (by omega), uI_at, if_neg (by omega), uI_at, if_pos ⟨rfl, rfl⟩]; rfl
  have e27 : w.2.1 73 27 = 0 := by rw [hw, uI_at, if_neg (by omega), uI_at, if_pos ⟨rfl, rfl⟩]
  have e21 : w.2.1 73 21 = nI (510 * t + 0) := by rw [hw, uI_at, if_pos ⟨rfl, rfl⟩]; rfl
  obtain ⟨v', a1, a2, a3⟩ := M_next (x := 0) f4 (by rw [off _ _ (by omega)]; exact h0) (yTb_c hB (fun j => off _ _ (by omega))) (zLt_c hL (fun a k z => off _ _ (by omega))) e23 (Nat.zero_le _)
  have off' : ∀ a k, ¬ yB25 a k → v'.2.1 a k = w.2.1 a k := a2.2.2.2
  refine ⟨v', ?_, ⟨a2.1, ?_, ?_, ?_, a3, ?_, ?_, ?_, fun j hj => absurd hj (Nat.not_lt_zero j)⟩, ?_, a2.1, fun a k z => ?_⟩
  · unfold F_M_text
    rw [gI_73 hf, zb_some, h16, if_neg (show ¬ nI t = 6 from fun z => by have : t = 6 := nI_inj (b := 6) (by omega) (by decide) z; omega), pI_73 hf, zb_some, pI_73 f1, zb_some, pZ_73 f2 (Or.inl rfl), zb_some, gI_73 f3, zb_some, e16, m5, pI_73 f3, zb_some, ← hw, fo_73 f4, zb_some, a1, zb_some]
    rfl
  · rw [off' _ _ (by unfold yB25; omega), off _ _ (by omega)]; exact h0
  · exact yTb_c hB (fun j => by rw [off' _ _ (by unfold yB25; omega), off _ _ (by omega)])
  · exact zLt_c hL (fun a k z => by rw [off' _ _ (by unfold yB25; omega), off _ _ (by omega)])
  · rw [off' _ _ (by unfold yB25; omega)]; exact e26
  · rw [off' _ _ (by unfold yB25; omega)]; exact e27
  · rw [off' _ _ (by unfold yB25; omega)]; exact e21
  · rw [off' _ _ (by unfold yB25; omega), off _ _ (by omega)]; exact h16
  · unfold yFM at z
    rw [off' a k (by unfold yB25; omega), off a k (by omega)]
theorem K_text (h : zSt n p yr tx rl tp c μ) : zOk c (fun u => F_X_text u 0) (fun u => F_M_text u 73) μ := by
  have h2 := h.2
  obtain ⟨hP, hPe, hAs, hTa, hBa, hYr, hTp, hTx, hIm, hSh, hLt⟩ := h2
  obtain ⟨x1, x2, x3, x4, x5, x6, x7, x8⟩ := hTx
  obtain ⟨t1, t2, t3, t4⟩ := hTp
  by_cases hx : tx = 6
  · subst hx
    refine zOk_same (v := (-4)) h ?_ ?_
    · show F_X_text μ 0 = _
      unfold F_X_text
      rw [gI_0 h.1, zb_some, x3, if_neg (show ¬ nI 6 < 6 by decide)]
    · show F_M_text μ 73 = _
      unfold F_M_text
      rw [gI_73 h.1, zb_some, x4, if_pos (show nI 6 = 6 from rfl)]
  have ht : tx < 6 := by omega
  obtain ⟨B, hBd⟩ : ∃ B : Nat → Nat, B = fun k => (μ.2.1 84 k).toNatClampNeg % 256 := ⟨_, rfl⟩
  have hB : ∀ j, B j < 256 := fun j => by rw [hBd]; exact Nat.mod_lt _ (by decide)
  have hB84 : yTb B tp 84 μ.2.1 := ⟨t1, hB, fun j hj => by
    obtain ⟨b1, b2, b3⟩ := t4 j (by omega) hj
    rw [hBd]
    dsimp only
    rw [Nat.mod_eq_of_lt (by omega)]
    exact b3⟩
  have hB72 : yTb B tp 72 μ.2.1 := ⟨t1, hB, fun j hj => by rw [(t4 j (by omega) hj).1]; exact hB84.2.2 j hj⟩
  obtain ⟨vX, a1, a2, a3, a4⟩ := X_beg ht h.1 t2 hB72
  have hXt : ∀ w u, zfix2 yTX zFU vX 0 = some (w, u) → F_X_text μ 0 = (if w = (-1) then ((zgI u 8 (some 0) 5).bind fun v9 => (zpI u 8 (some 0) 5 (v9 + 1)).bind fun u10 => (zgI u10 8 (some 0) 5).bind fun v11 => some ((v11 - 1), u10)) else (some (((-100 : Int32) - w), u))) := by
    intro w u hw
    unfold F_X_text
    rw [gI_0 h.1, zb_some, x3, if_pos (show nI tx < 6 by rw [show (6 : Int32) = nI 6 from rfl, nI_ltI (by omega) (by omega)]; exact ht), gR_0_3 h.1, zb_some, gR_0_4 h.1, zb_some, zb_some, aR_4 h.1 ht, zb_some, fo_71 h.1, zb_some, a1, hw, zk_some]
  rcases P_rest ht t1 hB 3 0 0 [] rfl (Nat.zero_le _) (Nat.zero_le _) with ⟨S, A, N, b1, b2, b3, b4, b5, b6⟩ | ⟨f, b1, b2, b3⟩
  · obtain ⟨u, d1, d2, d3, d4, d5⟩ := b5 vX zFU (by unfold zFU; omega) a2
    have fu1 : zFr (zuI u 0 5 (nI (tx + 1))) := fr_uI d2.1
    have offX : ∀ a k, ¬ yGX tx 0 a k → u.2.1 a k = μ.2.1 a k := fun a k z => by rw [d2.2.2.2 a k z]; exact a4 a k (fun y => z (Or.inl y))
    have e05 : u.2.1 0 5 = nI tx := by rw [offX _ _ (by unfold yGX yFX; omega)]; exact x3
    have k05 : (zuI u 0 5 (nI (tx + 1))).2.1 0 5 = nI (tx + 1) := by rw [uI_at, if_pos ⟨rfl, rfl⟩]
    have hX : F_X_text μ 0 = some (nI tx, zuI u 0 5 (nI (tx + 1))) := by
      rw [hXt (-1) u d1, if_pos rfl, gI_0 d2.1, zb_some, e05, show nI tx + 1 = nI (tx + 1) from nI_add tx 1, pI_0 d2.1, zb_some, gI_0 fu1, zb_some, k05, nI_pred]
    have offX1 : ∀ a k, ¬ yGX tx 0 a k → ¬ (a = 0 ∧ k = 5) → (zuI u 0 5 (nI (tx + 1))).2.1 a k = μ.2.1 a k := fun a k z y => by rw [uI_at, if_neg y]; exact offX a k z
    obtain ⟨vM, g1, g2, g3, g4, g5⟩ := M_beg (B := B) (T := tp) ht fu1 (by rw [offX1 _ _ (by unfold yGX yFX; omega) (by omega)]; exact t3) (by rw [offX1 _ _ (by unfold yGX yFX; omega) (by omega)]; exact x4) (yTb_c hB84 (fun j => offX1 _ _ (by unfold yGX yFX; omega) (by omega))) (zLt_c hLt (fun a k z => offX1 _ _ (by unfold yGX yFX; omega) (by omega)))
    obtain ⟨w, k1, k2, k3, k4, k5, k6⟩ := b6 vM zFU (by unfold zFU; omega) g2 g3
    have offM : ∀ a k, ¬ yGM tx 0 a k → w.2.1 a k = (zuI u 0 5 (nI (tx + 1))).2.1 a k := fun a k z => by rw [k2.2.2.2 a k z]; exact g5 a k (fun y => z (Or.inl y))
    have keep : ∀ a k, a = 40 + 4 * tx ∨ a = 41 + 4 * tx → w.2.1 a k = u.2.1 a k := fun a k z => by rw [offM a k (by unfold yGM yFM; omega), uI_at, if_neg (by omega)]
    have hE : ∀ a k, ¬ yWT tx a k → w.2.1 a k = μ.2.1 a k := fun a k z => by
      unfold yWT at z
      rw [offM a k (by unfold yGM yFM; omega), offX1 a k (by unfold yGX yFX; omega) (by omega)]
    refine ⟨nI tx, _, w, hX, fu1, ?_, n, p, yr, tx + 1, rl, 0, zSt_m ⟨k2.1, text_rel ht h.2 hE ?_ k3 ⟨by omega, by omega, ?_, k4, by omega, ?_, ?_, fun t' ht' htx => ?_⟩ (by omega)⟩⟩
    · show F_M_text _ 73 = _
      rw [g1]; exact k1
    · rw [offM _ _ (by unfold yGM yFM; omega), uI_at, if_neg (by omega)]; exact d3
    · rw [offM _ _ (by unfold yGM yFM; omega)]; exact k05
    · rw [hE _ _ (by unfold yWT; omega)]; exact x6
    · rw [hE _ _ (by unfold yWT; omega)]; exact x7
    · by_cases z : t' = tx
      · subst z
        exact text_new (S := S) (A := A) ht' b2 b3 (fun q hq => b4 q (Nat.zero_le _) hq) (fun i hi => by rw [keep _ _ (Or.inl rfl)]; exact d4 i hi) (fun q hq => by rw [keep _ _ (Or.inr rfl)]; exact d5 q (Nat.zero_le _) hq) k5 (fun q hq => k6 q (Nat.zero_le _) hq)
      · exact zTt_c ht' (x8 t' ht' (by omega)) (fun a k y => hE a k (by unfold yWT; omega))
  · obtain ⟨u, d1, d2, d3⟩ := b2 vX zFU (by unfold zFU; omega) a2
    have offX : ∀ a k, ¬ yGX tx 0 a k → u.2.1 a k = μ.2.1 a k := fun a k z => by rw [d2.2.2.2 a k z]; exact a4 a k (fun y => z (Or.inl y))
    have hX : F_X_text μ 0 = some ((-100 : Int32) - nI f, u) := by
      rw [hXt (nI f) u d1, if_neg (nI_n1 (by omega))]
    obtain ⟨vM, g1, g2, g3, g4, g5⟩ := M_beg (B := B) (T := tp) ht d2.1 (by rw [offX _ _ (by unfold yGX yFX; omega)]; exact t3) (by rw [offX _ _ (by unfold yGX yFX; omega)]; exact x4) (yTb_c hB84 (fun j => offX _ _ (by unfold yGX yFX; omega))) (zLt_c hLt (fun a k z => offX _ _ (by unfold yGX yFX; omega)))
    obtain ⟨w, k1, k2, k3, k4⟩ := b3 vM zFU (by unfold zFU; omega) g2 g3
    have offM : ∀ a k, ¬ yGM tx 0 a k → w.2.1 a k = u.2.1 a k := fun a k z => by rw [k2.2.2.2 a k z]; exact g5 a k (fun y => z (Or.inl y))
    have hE : ∀ a k, ¬ yWT tx a k → w.2.1 a k = μ.2.1 a k := fun a k z => by
      unfold yWT at z
      rw [offM a k (by unfold yGM yFM; omega), offX a k (by unfold yGX yFX; omega)]
    refine ⟨_, u, w, hX, d2.1, ?_, n, p, yr, tx, rl, 0, zSt_m ⟨k2.1, text_rel ht h.2 hE ?_ k3 ⟨x1, x2, ?_, k4, x5, ?_, ?_, fun t' ht' htx => ?_⟩ (Nat.le_refl _)⟩⟩
    · show F_M_text _ 73 = _
      rw [g1]; exact k1
    · rw [offM _ _ (by unfold yGM yFM; omega)]; exact d3
    · rw [offM _ _ (by unfold yGM yFM; omega), offX _ _ (by unfold yGX yFX; omega)]; exact x3
    · rw [hE _ _ (by unfold yWT; omega)]; exact x6
    · rw [hE _ _ (by unfold yWT; omega)]; exact x7
    · exact zTt_c ht' (x8 t' ht' htx) (fun a k y => hE a k (by unfold yWT; omega))
end K
