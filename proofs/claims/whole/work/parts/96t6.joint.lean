-- ===== reading: both in step =====
/-- two programs come to the same from a place on -/
def yO (B : Nat → Nat) (T t op e0 e1 D : Nat) (RX RM : zS → Option zS) (x : Nat) (L : List Int32) : Prop :=
  (∃ x' N, x' ≤ T ∧ yst0 B T x + e0 ≤ yst0 B T x' ∧ N.length + yst0 B T x ≤ yst0 B T x' ∧ (∀ d, e1 ≤ d → d ≤ D → zrun N d = some (d + 1 - e1)) ∧ (∀ v, gX B T t x L v → ∃ v', RX v = some v' ∧ gX B T t x' (L ++ N) v' ∧ yNs (yFX t) v v') ∧ ∀ v, gM B T t x L op v → ∃ v', RM v = some v' ∧ gM B T t x' (L ++ N) op v' ∧ yNs (yFM t) v v') ∨
  (∃ f, yst0 B T x ≤ f ∧ f ≤ T ∧ (∀ v, gX B T t x L v → ∃ v', RX v = some v' ∧ wX T t f v' ∧ yNs (yFX t) v v') ∧ ∀ v, gM B T t x L op v → ∃ v' c, RM v = some v' ∧ wM t f c v' ∧ c + yst0 B T x ≤ L.length + f ∧ yNs (yFM t) v v')
section S
variable {B : Nat → Nat} {T t op : Nat}
theorem yO_seq {D D1 D2 : Nat} {RX RM RX1 RM1 RX2 RM2 : zS → Option zS} {x : Nat} {L : List Int32} (hL : L.length ≤ yst0 B T x) (hRX : ∀ v, zFr v → RX v = (RX1 v).bind RX2) (hRM : ∀ v, zFr v → RM v = (RM1 v).bind RM2) (h1 : yO B T t op 1 0 D1 RX1 RM1 x L) (h2 : ∀ x' L', x' ≤ T → L'.length ≤ yst0 B T x' → yO B T t op 0 1 D2 RX2 RM2 x' L') (hwX : ∀ f v, f ≤ T → wX T t f v → ∃ v', RX2 v = some v' ∧ wX T t f v' ∧ yNs (yFX t) v v') (hwM : ∀ f c v, wM t f c v → RM2 v = some v) (hD1 : D ≤ D1) (hD2 : D + 1 ≤ D2) : yO B T t op 1 0 D RX RM x L := by
  rcases h1 with ⟨x1, N1, a1, a2, a3, a4, a5, a6⟩ | ⟨f, a1, a2, a3, a4⟩
  · have hL1 : (L ++ N1).length ≤ yst0 B T x1 := by rw [List.length_append]; omega
    rcases h2 x1 (L ++ N1) a1 hL1 with ⟨x2, N2, b1, b2, b3, b4, b5, b6⟩ | ⟨f, b1, b2, b3, b4⟩
    · refine Or.inl ⟨x2, N1 ++ N2, b1, by omega, by rw [List.length_append]; omega, fun d hd hdD => ?_, fun v hv => ?_, fun v hv => ?_⟩
      · rw [zrun_app, a4 d (Nat.zero_le d) (by omega), Nat.sub_zero]
        show zrun N2 (d + 1) = _
        rw [b4 (d + 1) (by omega) (by omega), Nat.add_sub_cancel]
      · obtain ⟨v1, c1, c2, c3⟩ := a5 v hv
        obtain ⟨v2, d1, d2, d3⟩ := b5 v1 c2
        rw [List.append_assoc] at d2
        exact ⟨v2, by rw [hRX v hv.1, c1]; exact d1, d2, yNs_tr c3 d3⟩
      · obtain ⟨v1, c1, c2, c3⟩ := a6 v hv
        obtain ⟨v2, d1, d2, d3⟩ := b6 v1 c2
        rw [List.append_assoc] at d2
        exact ⟨v2, by rw [hRM v hv.1, c1]; exact d1, d2, yNs_tr c3 d3⟩
    · refine Or.inr ⟨f, by omega, b2, fun v hv => ?_, fun v hv => ?_⟩
      · obtain ⟨v1, c1, c2, c3⟩ := a5 v hv
        obtain ⟨v2, d1, d2, d3⟩ := b3 v1 c2
        exact ⟨v2, by rw [hRX v hv.1, c1]; exact d1, d2, yNs_tr c3 d3⟩
      · obtain ⟨v1, c1, c2, c3⟩ := a6 v hv
        obtain ⟨v2, c, d1, d2, d3, d4⟩ := b4 v1 c2
        rw [List.length_append] at d3
        exact ⟨v2, c, by rw [hRM v hv.1, c1]; exact d1, d2, by omega, yNs_tr c3 d4⟩
  · refine Or.inr ⟨f, a1, a2, fun v hv => ?_, fun v hv => ?_⟩
    · obtain ⟨v1, c1, c2, c3⟩ := a3 v hv
      obtain ⟨v2, d1, d2, d3⟩ := hwX f v1 a2 c2
      exact ⟨v2, by rw [hRX v hv.1, c1]; exact d1, d2, yNs_tr c3 d3⟩
    · obtain ⟨v1, c, c1, c2, c3, c4⟩ := a4 v hv
      exact ⟨v1, c, by rw [hRM v hv.1, c1]; exact hwM f c v1 c2, c2, c3, c4⟩
theorem zrun_bin {a : Int32} {d : Nat} (h : zbin a) (hd : 2 ≤ d) : zrun [a] d = some (d - 1) := by
  obtain ⟨h1, h2, h3⟩ := zrt_nb h
  unfold zbin at h
  unfold zrun
  rw [if_neg h1, if_neg (fun z => z.elim h2 h3), if_pos h, if_pos hd]
  rfl
theorem yO_loop {D : Nat} {bX : (zS → Int32 → Option zS) → zS → Int32 → Option zS} {bM : (zS → Option zS) → zS → Option zS} {SX SM : zS → Option zS} {opf : Nat → Option Int32} (ht : t < 6) (hT : T ≤ 160) (h13 : opf 13 = none) (hbin : ∀ k a, opf k = some a → zbin a)
    (hX0 : ∀ r v i x L, gX B T t x L v → i ≤ 160 → opf (ykx B T x) = none → bX r v (nI i) = some v)
    (hX1 : ∀ r v i x L a v1 v2 v3, gX B T t x L v → i < 160 → opf (ykx B T x) = some a → F_Reader_advance v 71 = some v1 → zFr v1 → SX v1 = some v2 → zFr v2 → v2.2.2.2 71 2 = some (39 + 4 * t) → F_Text_add v2 (39 + 4 * t) (ztr a) = some v3 → bX r v (nI i) = r v3 (nI (i + 1)))
    (hX2 : ∀ r v i f, wX T t f v → i ≤ 160 → bX r v (nI i) = some v)
    (hM0 : ∀ r v x L, gM B T t x L op v → opf (ykx B T x) = none → bM r v = some v)
    (hM1 : ∀ r v x L a v1 v2 v3, gM B T t x L op v → opf (ykx B T x) = some a → F_M_next v 73 = some v1 → zFr v1 → SM v1 = some v2 → zFr v2 → F_M_lay v2 73 a = some v3 → bM r v = r v3)
    (hM2 : ∀ r v f c, wM t f c v → bM r v = some v)
    (sub : ∀ x L, x ≤ T → L.length ≤ yst0 B T x → yO B T t op 1 0 D SX SM x L) :
    ∀ m x L i nX nM, T - yst0 B T x ≤ m → x ≤ T → i ≤ yst0 B T x → L.length ≤ yst0 B T x → m + 1 < nX → m + 1 < nM → yO B T t op 0 1 D (fun v => zfix2 bX nX v (nI i)) (fun v => zfix1 bM nM v) x L := by
  intro m
  induction m with
  | zero =>
    intro x L i nX nM hm hx hi hL hnX hnM
    obtain ⟨nX, rfl⟩ : ∃ k, nX = k + 1 := ⟨nX - 1, by omega⟩
    obtain ⟨nM, rfl⟩ : ∃ k, nM = k + 1 := ⟨nM - 1, by omega⟩
    have hst := yst_le (B := B) hx
    have hk : ykx B T x = 13 := by
      apply Classical.byContradiction
      intro z
      have := ykx_lt hx z
      omega
    refine Or.inl ⟨x, [], hx, by omega, by simp, fun d _ _ => ?_, fun v hv => ⟨v, hX0 _ v i x L hv (by omega) (by rw [hk]; exact h13), by rw [List.append_nil]; exact hv, yNs_rf hv.1⟩, fun v hv => ⟨v, hM0 _ v x L hv (by rw [hk]; exact h13), by rw [List.append_nil]; exact hv, yNs_rf hv.1⟩⟩
    rw [Nat.add_sub_cancel]; rfl
  | succ m ih =>
    intro x L i nX nM hm hx hi hL hnX hnM
    obtain ⟨nX, rfl⟩ : ∃ k, nX = k + 1 := ⟨nX - 1, by omega⟩
    obtain ⟨nM, rfl⟩ : ∃ k, nM = k + 1 := ⟨nM - 1, by omega⟩
    have hst := yst_le (B := B) hx
    cases hop : opf (ykx B T x) with
    | none =>
      refine Or.inl ⟨x, [], hx, by omega, by simp, fun d _ _ => ?_, fun v hv => ⟨v, hX0 _ v i x L hv (by omega) hop, by rw [List.append_nil]; exact hv, yNs_rf hv.1⟩, fun v hv => ⟨v, hM0 _ v x L hv hop, by rw [List.append_nil]; exact hv, yNs_rf hv.1⟩⟩
      rw [Nat.add_sub_cancel]; rfl
    | some a =>
      have hk13 : ykx B T x ≠ 13 := fun z => by rw [z, h13] at hop; cases hop
      have hlt := ykx_lt hx hk13
      obtain ⟨g1, g2⟩ := ynx_ok hx hk13
      have hst1 := yst_le (B := B) g1
      rcases sub (yex0 B T x) L g1 (by omega) with ⟨x2, N1, a1, a2, a3, a4, a5, a6⟩ | ⟨f, a1, a2, a3, a4⟩
      · have hst2 := yst_le (B := B) a1
        have hlen : (L ++ N1).length < 160 := by rw [List.length_append]; omega
        have hlen2 : (L ++ N1 ++ [a]).length ≤ yst0 B T x2 := by
          rw [List.length_append, List.length_append]
          show L.length + N1.length + 1 ≤ _
          omega
        have stepX : ∀ v, gX B T t x L v → ∃ v3, zfix2 bX (nX + 1) v (nI i) = zfix2 bX nX v3 (nI (i + 1)) ∧ gX B T t x2 (L ++ N1 ++ [a]) v3 ∧ yNs (yFX t) v v3 := by
          intro v hv
          obtain ⟨v1, b1, b2, b3⟩ := X_go ht hx hk13 hv
          obtain ⟨v2, c1, c2, c3⟩ := a5 v1 b2
          obtain ⟨v3, d1, d2, d3⟩ := X_add (a := a) ht hlen c2
          exact ⟨v3, hX1 (zfix2 bX nX) v i x L a v1 v2 v3 hv (by omega) hop b1 b2.1 c1 c2.1 c2.2.1 d1, d2, yNs_tr b3 (yNs_tr c3 d3)⟩
        have stepM : ∀ v, gM B T t x L op v → ∃ v3, zfix1 bM (nM + 1) v = zfix1 bM nM v3 ∧ gM B T t x2 (L ++ N1 ++ [a]) op v3 ∧ yNs (yFM t) v v3 := by
          intro v hv
          obtain ⟨v1, b1, b2, b3⟩ := M_go hx hk13 hv
          obtain ⟨v2, c1, c2, c3⟩ := a6 v1 b2
          obtain ⟨v3, d1, d2, d3⟩ := M_lay (a := a) ht (by omega) c2
          exact ⟨v3, hM1 (zfix1 bM nM) v x L a v1 v2 v3 hv hop b1 b2.1 c1 c2.1 d1, d2, yNs_tr b3 (yNs_tr c3 d3)⟩
        rcases ih x2 (L ++ N1 ++ [a]) (i + 1) nX nM (by omega) a1 (by omega) hlen2 (by omega) (by omega) with ⟨x3, N2, e1, e2, e3, e4, e5, e6⟩ | ⟨f, e1, e2, e3, e4⟩
        · have happ : L ++ N1 ++ [a] ++ N2 = L ++ (N1 ++ [a] ++ N2) := by simp
          refine Or.inl ⟨x3, N1 ++ [a] ++ N2, e1, by omega, ?_, fun d hd hdD => ?_, fun v hv => ?_, fun v hv => ?_⟩
          · rw [List.length_append, List.length_append]
            show N1.length + 1 + N2.length + _ ≤ _
            omega
          · rw [zrun_app, zrun_app, a4 d (Nat.zero_le d) hdD, Nat.sub_zero]
            show ((zrun [a] (d + 1)).bind (zrun N2)) = _
            rw [zrun_bin (hbin _ a hop) (by omega), Nat.add_sub_cancel]
            show zrun N2 d = _
            rw [e4 d hd hdD, Nat.add_sub_cancel]
          · obtain ⟨v3, s1, s2, s3⟩ := stepX v hv
            obtain ⟨v4, q1, q2, q3⟩ := e5 v3 s2
            rw [happ] at q2
            exact ⟨v4, s1.trans q1, q2, yNs_tr s3 q3⟩
          · obtain ⟨v3, s1, s2, s3⟩ := stepM v hv
            obtain ⟨v4, q1, q2, q3⟩ := e6 v3 s2
            rw [happ] at q2
            exact ⟨v4, s1.trans q1, q2, yNs_tr s3 q3⟩
        · refine Or.inr ⟨f, by omega, e2, fun v hv => ?_, fun v hv => ?_⟩
          · obtain ⟨v3, s1, s2, s3⟩ := stepX v hv
            obtain ⟨v4, q1, q2, q3⟩ := e3 v3 s2
            exact ⟨v4, s1.trans q1, q2, yNs_tr s3 q3⟩
          · obtain ⟨v3, s1, s2, s3⟩ := stepM v hv
            obtain ⟨v4, c, q1, q2, q3, q4⟩ := e4 v3 s2
            refine ⟨v4, c, s1.trans q1, q2, ?_, yNs_tr s3 q4⟩
            rw [List.length_append, List.length_append] at q3
            have q3' : c + yst0 B T x2 ≤ L.length + N1.length + 1 + f := q3
            omega
      · refine Or.inr ⟨f, by omega, a2, fun v hv => ?_, fun v hv => ?_⟩
        · obtain ⟨v1, b1, b2, b3⟩ := X_go ht hx hk13 hv
          obtain ⟨v2, c1, c2, c3⟩ := a3 v1 b2
          obtain ⟨v3, d1, d2, d3⟩ := X_addw (a := ztr a) ht c2
          have s1 := hX1 (zfix2 bX nX) v i x L a v1 v2 v3 hv (by omega) hop b1 b2.1 c1 c2.1 c2.2.1 d1
          obtain ⟨nX', rfl⟩ : ∃ k, nX = k + 1 := ⟨nX - 1, by omega⟩
          exact ⟨v3, s1.trans (hX2 (zfix2 bX nX') v3 (i + 1) f d2 (by omega)), d2, yNs_tr b3 (yNs_tr c3 d3)⟩
        · obtain ⟨v1, b1, b2, b3⟩ := M_go hx hk13 hv
          obtain ⟨v2, c, c1, c2, c3, c4⟩ := a4 v1 b2
          obtain ⟨v3, d1, d2, d3⟩ := M_layw (a := a) ht (by omega) c2
          have s1 := hM1 (zfix1 bM nM) v x L a v1 v2 v3 hv hop b1 b2.1 c1 c2.1 d1
          obtain ⟨nM', rfl⟩ : ∃ k, nM = k + 1 := ⟨nM - 1, by omega⟩
          exact ⟨v3, c + 1, s1.trans (hM2 (zfix1 bM nM') v3 f (c + 1) d2), d2, by omega, yNs_tr b3 (yNs_tr c4 d3)⟩
end S
