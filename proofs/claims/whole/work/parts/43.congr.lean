-- ===== each part of the relation reads some places alone =====
theorem zRg_m {x : Int32} {m m' : Nat} (h : zRg x m) (hm : m ≤ m') : zRg x m' := ⟨Nat.le_trans h.1 hm, h.2⟩
theorem zRg_nI {v m : Nat} (h : v ≤ m) (hm : m < 2 ^ 31) : zRg (nI v) m := by
  have h2 : (nI v).toNatClampNeg = v := nI_clamp (by omega)
  exact ⟨by rw [h2]; exact h, by rw [h2]⟩
theorem zRg_ex {x : Int32} {m : Nat} (h : zRg x m) : ∃ v, v ≤ m ∧ x = nI v ∧ x.toNatClampNeg = v := ⟨_, h.1, h.2, rfl⟩
section C
variable {n p yr tx rl tp c : Nat} {e e' : Nat → Nat → Int32}
theorem zP_c (h : zP n e) (hE : ∀ a k, (a = 1 ∧ k ≤ 1) ∨ (a = 73 ∧ k = 1) ∨ a = 74 ∨ a = 2 ∨ a = 75 → e' a k = e a k) : zP n e' := by
  obtain ⟨h1, h2, h3, h4, h5, h6, h7, h8⟩ := h
  refine ⟨h1, ?_, ?_, fun q hq => ?_, fun q hq => ?_, ?_, fun q hq => ?_, fun q hq hqn => ?_⟩
  · rw [hE _ _ (by omega)]; exact h2
  · rw [hE _ _ (by omega)]; exact h3
  · rw [hE _ _ (by omega)]; exact h4 q hq
  · rw [hE _ _ (by omega)]; exact h5 q hq
  · rw [hE _ _ (by omega)]; exact h6
  · rw [hE _ _ (by omega), hE _ _ (by omega)]; exact h7 q hq
  · rw [hE 2 _ (by omega), hE 75 _ (by omega)]; exact h8 q hq hqn
theorem zPe_c (h : zPe n p e) (hE : ∀ a k, (a = 0 ∧ k = 2) ∨ (a = 73 ∧ k = 4) ∨ (18 ≤ a ∧ a ≤ 38 ∧ (a - 18) % 3 = 0 ∧ k ≤ 3) ∨ (76 ≤ a ∧ a ≤ 79) → e' a k = e a k) : zPe n p e' := by
  obtain ⟨h1, h2, h3, h4⟩ := h
  refine ⟨h1, ?_, ?_, fun w hw hwp => ?_⟩
  · rw [hE _ _ (by omega)]; exact h2
  · rw [hE _ _ (by omega)]; exact h3
  · rw [hE (18 + 3 * w) 0 (by omega), hE (18 + 3 * w) 1 (by omega), hE (18 + 3 * w) 2 (by omega), hE (18 + 3 * w) 3 (by omega), hE 76 w (by omega), hE 77 w (by omega), hE 78 w (by omega), hE 79 w (by omega)]
    exact h4 w hw hwp
theorem zPe_n {n' : Nat} (h : zPe n p e) (hn : n ≤ n') : zPe n' p e := by
  obtain ⟨h1, h2, h3, h4⟩ := h
  refine ⟨h1, h2, h3, fun w hw hwp => ?_⟩
  obtain ⟨a1, a2, a3, a4, a5, a6⟩ := h4 w hw hwp
  exact ⟨a1, a2, a3, a4, Nat.lt_of_lt_of_le a5 hn, a6⟩
theorem zAs_c (h : zAs p c e) (hE : ∀ a k, (18 ≤ a ∧ a ≤ 38 ∧ (a - 18) % 3 = 0 ∧ k = 4) ∨ a = 80 → e' a k = e a k) : zAs p c e' := by
  intro w hw
  rw [hE (18 + 3 * w) 4 (by omega), hE 80 w (by omega)]
  exact h w hw
theorem zAs_m {c' p' : Nat} (h : zAs p c e) (hc : c ≤ c') (hp : p ≤ p') : zAs p' c' e := by
  intro w hw
  obtain ⟨h1, h2, h3⟩ := h w hw
  exact ⟨h1, zRg_m h2 (by omega), fun hh => h3 (by omega)⟩
theorem zTb_n {n' : Nat} {lx t s : Int32} {q : Nat} (h : zTb n lx t s q) (hn : n ≤ n') : zTb n' lx t s q := by
  rcases h with h | ⟨h1, h2, h3, h4⟩
  · exact Or.inl h
  · exact Or.inr ⟨h1, h2, h3, by omega⟩
theorem zTa_c (h : zTa n p e) (hE : ∀ a k, (18 ≤ a ∧ a ≤ 38 ∧ (a - 18) % 3 = 1) ∨ a = 81 ∨ a = 82 → e' a k = e a k) : zTa n p e' := by
  intro w hw q hq
  rw [hE (19 + 3 * w) q (by omega), hE 82 _ (by omega), hE 81 _ (by omega)]
  exact h w hw q hq
theorem zTa_n {n' p' : Nat} (h : zTa n p e) (hn : n ≤ n') (hp : p ≤ p') : zTa n' p' e := by
  intro w hw q hq
  obtain ⟨h1, h2⟩ := h w hw q hq
  exact ⟨zTb_n h1 hn, fun hh => h2 (by omega)⟩
theorem zBb_c {bx : Int32} {b b' : Nat → Int32} (h : zBb bx b) (hE : ∀ q, q < 6 → b' q = b q) : zBb bx b' := by
  refine ⟨h.1, fun q hq => ?_⟩
  rw [hE q hq]
  exact h.2 q hq
theorem zBa_c (h : zBa p e) (hE : ∀ a k, (18 ≤ a ∧ a ≤ 38 ∧ (a - 18) % 3 = 0 ∧ k = 6) ∨ a = 83 → e' a k = e a k) : zBa p e' := by
  intro w hw
  obtain ⟨h1, h2⟩ := h w hw
  rw [hE (18 + 3 * w) 6 (by omega)]
  exact ⟨zBb_c h1 (fun q hq => hE 83 _ (by omega)), h2⟩
theorem zBa_p {p' : Nat} (h : zBa p e) (hp : p ≤ p') : zBa p' e := fun w hw => ⟨(h w hw).1, fun hh => (h w hw).2 (by omega)⟩
theorem zYr_c (h : zYr yr e) (hE : ∀ a k, (a = 1 ∧ k = 3) ∨ (a = 73 ∧ k = 10) → e' a k = e a k) : zYr yr e' := by
  obtain ⟨h1, h2, h3⟩ := h
  exact ⟨h1, by rw [hE _ _ (by omega)]; exact h2, by rw [hE _ _ (by omega)]; exact h3⟩
theorem zTp_c (h : zTp tp e) (hE : ∀ a k, (a = 71 ∧ k = 0) ∨ (a = 73 ∧ k = 15) ∨ a = 72 ∨ a = 84 → e' a k = e a k) : zTp tp e' := by
  obtain ⟨h1, h2, h3, h4⟩ := h
  refine ⟨h1, by rw [hE _ _ (by omega)]; exact h2, by rw [hE _ _ (by omega)]; exact h3, fun k hk hkt => ?_⟩
  rw [hE 72 _ (by omega), hE 84 _ (by omega)]
  exact h4 k hk hkt
theorem zTt_c {t : Nat} (ht : t < 6) (h : zTt e t) (hE : ∀ a k, (a = 40 + 4 * t ∨ a = 41 + 4 * t) ∨ (a = 85 ∧ k < 510 * (t + 1)) ∨ ((a = 86 ∨ a = 87) ∧ k < 3 * (t + 1)) → e' a k = e a k) : zTt e' t := by
  intro part hp
  have hh := h part hp
  have e1 : e' (41 + 4 * t) part = e (41 + 4 * t) part := hE _ _ (by omega)
  have e2 : e' (41 + 4 * t) (part - 1) = e (41 + 4 * t) (part - 1) := hE _ _ (by omega)
  have e3 : e' 86 (3 * t + part) = e 86 (3 * t + part) := hE _ _ (by omega)
  have e4 : e' 87 (3 * t + part) = e 87 (3 * t + part) := hE _ _ (by omega)
  rw [e1, e2, e3, e4]
  obtain ⟨h1, h2, h3, g1, g2, g3, g4, g5, g6, g7⟩ := hh
  refine ⟨h1, h2, h3, g1, g2, g3, g4, g5, fun j hj hjs => ?_, ?_⟩
  · rw [hE (40 + 4 * t) _ (by omega), hE 85 _ (by omega)]
    exact g6 j hj hjs
  · rw [← g7]
    congr 1
    apply List.map_congr_left
    intro j hj
    have := List.mem_range.mp hj
    exact hE 85 _ (by omega)
theorem zTx_c (h : zTx tx rl e) (hE : ∀ a k, (a = 0 ∧ (k = 5 ∨ k = 6)) ∨ (a = 73 ∧ (k = 16 ∨ k = 17)) ∨ (40 ≤ a ∧ a ≤ 62 ∧ ((a - 39) % 4 = 1 ∨ (a - 39) % 4 = 2) ∧ (a - 39) / 4 < tx) ∨ (a = 85 ∧ k < 510 * tx) ∨ ((a = 86 ∨ a = 87) ∧ k < 3 * tx) → e' a k = e a k) : zTx tx rl e' := by
  obtain ⟨h1, h2, h3, h4, h5, h6, h7, h8⟩ := h
  refine ⟨h1, h2, by rw [hE _ _ (by omega)]; exact h3, by rw [hE _ _ (by omega)]; exact h4, h5, by rw [hE _ _ (by omega)]; exact h6, by rw [hE _ _ (by omega)]; exact h7, fun t ht htx => ?_⟩
  exact zTt_c ht (h8 t ht htx) (fun a k hak => hE a k (by omega))
theorem zIm_c (h : zIm n p tx c e) (hE : ∀ a k, (a = 0 ∧ 12 ≤ k ∧ k ≤ 15) ∨ (a = 73 ∧ 41 ≤ k ∧ k ≤ 44) ∨ (18 ≤ a ∧ a ≤ 38 ∧ (a - 18) % 3 = 0 ∧ (k = 7 ∨ k = 9)) ∨ (18 ≤ a ∧ a ≤ 38 ∧ (a - 18) % 3 = 2) ∨ (95 ≤ a ∧ a ≤ 98) → e' a k = e a k) : zIm n p tx c e' := by
  unfold zIm at h ⊢
  rw [hE 0 12 (by omega), hE 0 13 (by omega), hE 0 14 (by omega), hE 0 15 (by omega), hE 73 41 (by omega), hE 73 42 (by omega), hE 73 43 (by omega), hE 73 44 (by omega)]
  obtain ⟨h1, h2, h3⟩ := h
  refine ⟨h1, h2, fun hi => ?_⟩
  obtain ⟨g1, g2, g3, g4, g5, g6, g7, g8, g9⟩ := h3 hi
  refine ⟨g1, g2, g3, g4, g5, g6, g7, g8, fun w hw hwi => ?_⟩
  obtain ⟨k1, k2, k3, k4⟩ := g9 w hw hwi
  rw [hE (18 + 3 * w) 7 (by omega), hE (18 + 3 * w) 9 (by omega), hE 98 w (by omega)]
  refine ⟨k1, k2, zBb_c k3 (fun q hq => hE 97 _ (by omega)), fun q hq => ?_⟩
  rw [hE (20 + 3 * w) q (by omega), hE 96 _ (by omega), hE 95 _ (by omega)]
  exact k4 q hq
theorem zIm_m {n' p' tx' c' : Nat} (h : zIm n p tx c e) (hn : n ≤ n') (hp : p ≤ p') (ht : tx ≤ tx') (hc : c ≤ c') : zIm n' p' tx' c' e := by
  obtain ⟨h1, h2, h3⟩ := h
  refine ⟨h1, h2, fun hi => ?_⟩
  obtain ⟨g1, g2, g3, g4, g5, g6, g7, g8, g9⟩ := h3 hi
  refine ⟨g1, g2, g3, g4, by omega, g6, g7, by omega, fun w hw hwi => ?_⟩
  obtain ⟨k1, k2, k3, k4⟩ := g9 w hw hwi
  exact ⟨k1, zRg_m k2 (by omega), k3, fun q hq => zTb_n (k4 q hq) hn⟩
theorem zSh_c (h : zSh e) (hE : ∀ a k, (63 ≤ a ∧ a ≤ 70) ∨ (99 ≤ a ∧ a ≤ 101) → e' a k = e a k) : zSh e' := by
  intro d hd
  obtain ⟨h1, h2, h3, h4, h5⟩ := h d hd
  rw [hE (63 + 2 * d) 0 (by omega), hE (63 + 2 * d) 1 (by omega), hE 99 d (by omega), hE 100 d (by omega)]
  refine ⟨h1, h2, h3, h4, fun k hk => ?_⟩
  rw [hE (64 + 2 * d) k (by omega), hE 101 _ (by omega)]
  exact h5 k hk
theorem zLt_c (h : zLt e) (hE : ∀ a k, a = 88 ∨ (a = 8 ∧ k = 0) → e' a k = e a k) : zLt e' := by
  refine ⟨(hE 8 0 (Or.inr ⟨rfl, rfl⟩)).trans h.1, fun k hk => ?_⟩
  rw [hE 88 k (Or.inl rfl)]; exact h.2 k hk
theorem ze0 {tx a k : Nat} (h : a = 0 ∧ (k = 2 ∨ k = 5 ∨ k = 6 ∨ 12 ≤ k ∧ k ≤ 15)) : zess tx a k := Or.inl h
theorem ze1 {tx a k : Nat} (h : a = 1 ∧ (k = 0 ∨ k = 1 ∨ k = 3)) : zess tx a k := Or.inr (Or.inl h)
theorem ze2 {tx a k : Nat} (h : a = 2) : zess tx a k := Or.inr (Or.inr (Or.inl h))
theorem ze3 {tx a k : Nat} (h : 18 ≤ a ∧ a ≤ 38) : zess tx a k := Or.inr (Or.inr (Or.inr (Or.inl h)))
theorem ze4 {tx a k : Nat} (h : 39 ≤ a ∧ a ≤ 62 ∧ (a - 39) % 4 ≠ 3 ∧ (a - 39) / 4 < tx) : zess tx a k := Or.inr (Or.inr (Or.inr (Or.inr (Or.inl h))))
theorem ze5 {tx a k : Nat} (h : 63 ≤ a ∧ a ≤ 70) : zess tx a k := Or.inr (Or.inr (Or.inr (Or.inr (Or.inr (Or.inl h)))))
theorem ze6 {tx a k : Nat} (h : a = 71 ∧ k = 0) : zess tx a k := Or.inr (Or.inr (Or.inr (Or.inr (Or.inr (Or.inr (Or.inl h))))))
theorem ze7 {tx a k : Nat} (h : a = 72) : zess tx a k := Or.inr (Or.inr (Or.inr (Or.inr (Or.inr (Or.inr (Or.inr (Or.inl h)))))))
theorem ze8 {tx a k : Nat} (h : a = 73 ∧ (k = 1 ∨ k = 4 ∨ k = 10 ∨ 15 ≤ k ∧ k ≤ 17 ∨ 41 ≤ k ∧ k ≤ 44)) : zess tx a k := Or.inr (Or.inr (Or.inr (Or.inr (Or.inr (Or.inr (Or.inr (Or.inr (Or.inl h))))))))
theorem ze9 {tx a k : Nat} (h : 74 ≤ a ∧ a ≤ 84) : zess tx a k := Or.inr (Or.inr (Or.inr (Or.inr (Or.inr (Or.inr (Or.inr (Or.inr (Or.inr (Or.inl h)))))))))
theorem ze10 {tx a k : Nat} (h : a = 85 ∧ k < 510 * tx) : zess tx a k := Or.inr (Or.inr (Or.inr (Or.inr (Or.inr (Or.inr (Or.inr (Or.inr (Or.inr (Or.inr (Or.inl h))))))))))
theorem ze11 {tx a k : Nat} (h : (a = 86 ∨ a = 87) ∧ k < 3 * tx) : zess tx a k := Or.inr (Or.inr (Or.inr (Or.inr (Or.inr (Or.inr (Or.inr (Or.inr (Or.inr (Or.inr (Or.inr (Or.inl h)))))))))))
theorem ze12 {tx a k : Nat} (h : a = 88) : zess tx a k := Or.inr (Or.inr (Or.inr (Or.inr (Or.inr (Or.inr (Or.inr (Or.inr (Or.inr (Or.inr (Or.inr (Or.inr (Or.inl h))))))))))))
theorem ze13 {tx a k : Nat} (h : 95 ≤ a ∧ a ≤ 101) : zess tx a k := Or.inr (Or.inr (Or.inr (Or.inr (Or.inr (Or.inr (Or.inr (Or.inr (Or.inr (Or.inr (Or.inr (Or.inr (Or.inr (Or.inl h)))))))))))))
theorem ze14 {tx a k : Nat} (h : a = 8 ∧ k = 0) : zess tx a k := Or.inr (Or.inr (Or.inr (Or.inr (Or.inr (Or.inr (Or.inr (Or.inr (Or.inr (Or.inr (Or.inr (Or.inr (Or.inr (Or.inr h)))))))))))))
theorem zRel_c (h : zRel n p yr tx rl tp c e) (hE : ∀ a k, zess tx a k → e' a k = e a k) : zRel n p yr tx rl tp c e' := by
  obtain ⟨h1, h2, h3, h4, h5, h6, h7, h8, h9, h10, h11⟩ := h
  refine ⟨zP_c h1 ?_, zPe_c h2 ?_, zAs_c h3 ?_, zTa_c h4 ?_, zBa_c h5 ?_, zYr_c h6 ?_, zTp_c h7 ?_, zTx_c h8 ?_, zIm_c h9 ?_, zSh_c h10 ?_, zLt_c h11 ?_⟩
  · rintro a k (h | h | h | h | h)
    · exact hE a k (ze1 (by omega))
    · exact hE a k (ze8 (by omega))
    · exact hE a k (ze9 (by omega))
    · exact hE a k (ze2 (by omega))
    · exact hE a k (ze9 (by omega))
  · rintro a k (h | h | h | h)
    · exact hE a k (ze0 (by omega))
    · exact hE a k (ze8 (by omega))
    · exact hE a k (ze3 (by omega))
    · exact hE a k (ze9 (by omega))
  · rintro a k (h | h)
    · exact hE a k (ze3 (by omega))
    · exact hE a k (ze9 (by omega))
  · rintro a k (h | h | h)
    · exact hE a k (ze3 (by omega))
    · exact hE a k (ze9 (by omega))
    · exact hE a k (ze9 (by omega))
  · rintro a k (h | h)
    · exact hE a k (ze3 (by omega))
    · exact hE a k (ze9 (by omega))
  · rintro a k (h | h)
    · exact hE a k (ze1 (by omega))
    · exact hE a k (ze8 (by omega))
  · rintro a k (h | h | h | h)
    · exact hE a k (ze6 (by omega))
    · exact hE a k (ze8 (by omega))
    · exact hE a k (ze7 (by omega))
    · exact hE a k (ze9 (by omega))
  · rintro a k (h | h | h | h | h)
    · exact hE a k (ze0 (by omega))
    · exact hE a k (ze8 (by omega))
    · exact hE a k (ze4 (by omega))
    · exact hE a k (ze10 (by omega))
    · exact hE a k (ze11 (by omega))
  · rintro a k (h | h | h | h | h)
    · exact hE a k (ze0 (by omega))
    · exact hE a k (ze8 (by omega))
    · exact hE a k (ze3 (by omega))
    · exact hE a k (ze3 (by omega))
    · exact hE a k (ze13 (by omega))
  · rintro a k (h | h)
    · exact hE a k (ze5 (by omega))
    · exact hE a k (ze13 (by omega))
  · rintro a k (h | h)
    · exact hE a k (ze12 (by omega))
    · exact hE a k (ze14 h)
theorem zRel_m (h : zRel n p yr tx rl tp c e) : zRel n p yr tx rl tp (c + 1) e := by
  obtain ⟨h1, h2, h3, h4, h5, h6, h7, h8, h9, h10, h11⟩ := h
  exact ⟨h1, h2, zAs_m h3 (Nat.le_succ c) (Nat.le_refl p), h4, h5, h6, h7, h8, zIm_m h9 (Nat.le_refl _) (Nat.le_refl _) (Nat.le_refl _) (Nat.le_succ c), h10, h11⟩
end C
/-- the same in all places that matter -/
def zAg (tx : Nat) (μ μ' : zS) : Prop := zFr μ' ∧ ∀ a k, zess tx a k → μ'.2.1 a k = μ.2.1 a k
theorem zAg_rf {tx : Nat} {μ : zS} (h : zFr μ) : zAg tx μ μ := ⟨h, fun _ _ _ => rfl⟩
theorem zAg_tr {tx : Nat} {μ μ' μ'' : zS} (h : zAg tx μ μ') (h2 : zAg tx μ' μ'') : zAg tx μ μ'' := ⟨h2.1, fun a k hk => (h2.2 a k hk).trans (h.2 a k hk)⟩
theorem zAg_uI {tx : Nat} {μ μ' : zS} {a q : Nat} {v : Int32} (h : zAg tx μ μ') (hn : ¬ zess tx a q) : zAg tx μ (zuI μ' a q v) := by
  refine ⟨h.1, fun b k hk => ?_⟩
  rw [uI_at, if_neg (fun hh => hn (by rw [← hh.1, ← hh.2]; exact hk))]
  exact h.2 b k hk
theorem zAg_uJ {tx : Nat} {μ μ' : zS} {a q : Nat} {v : Int64} (h : zAg tx μ μ') : zAg tx μ (zuJ μ' a q v) := h
theorem zAg_uR {tx : Nat} {μ μ' : zS} {v : Option Nat} (h : zAg tx μ μ') : zAg tx μ (zuR μ' 71 2 v) := ⟨fr_uR h.1, h.2⟩
theorem zSt_ag {n p yr tx rl tp c : Nat} {μ μ' : zS} (h : zSt n p yr tx rl tp c μ) (ha : zAg tx μ μ') : zSt n p yr tx rl tp c μ' := ⟨ha.1, zRel_c h.2 ha.2⟩
theorem zSt_m {n p yr tx rl tp c : Nat} {μ : zS} (h : zSt n p yr tx rl tp c μ) : zSt n p yr tx rl tp (c + 1) μ := ⟨h.1, zRel_m h.2⟩
/-- between two calls, behind c of them -/
def zSx (c : Nat) (μ : zS) : Prop := ∃ n p yr tx rl tp, zSt n p yr tx rl tp c μ
/-- what a pair of calls must do -/
def zOk (c : Nat) (FX FM : zS → Option (Int32 × zS)) (μ : zS) : Prop := ∃ v μ1 μ2, FX μ = some (v, μ1) ∧ zFr μ1 ∧ FM μ1 = some (v, μ2) ∧ zSx (c + 1) μ2
theorem zOk_same {n p yr tx rl tp c : Nat} {FX FM : zS → Option (Int32 × zS)} {μ : zS} {v : Int32} (h : zSt n p yr tx rl tp c μ) (hX : FX μ = some (v, μ)) (hM : FM μ = some (v, μ)) : zOk c FX FM μ := ⟨v, μ, μ, hX, h.1, hM, n, p, yr, tx, rl, tp, zSt_m h⟩
/-- calls that write what doesn't matter alone -/
theorem zOk_ag {n p yr tx rl tp c : Nat} {FX FM : zS → Option (Int32 × zS)} {μ μ1 μ2 : zS} {v : Int32} (h : zSt n p yr tx rl tp c μ) (hX : FX μ = some (v, μ1)) (h1 : zAg tx μ μ1) (hM : FM μ1 = some (v, μ2)) (h2 : zAg tx μ1 μ2) : zOk c FX FM μ := ⟨v, μ1, μ2, hX, h1.1, hM, n, p, yr, tx, rl, tp, zSt_m (zSt_ag h (zAg_tr h1 h2))⟩
