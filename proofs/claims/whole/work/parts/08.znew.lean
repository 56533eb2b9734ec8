-- ===== making =====
def zNew (μ : zS) (K : zK) : zS := (μ.1 ++ [K], fun b j => if b = μ.1.length then 0 else μ.2.1 b j, fun b j => if b = μ.1.length then 0 else μ.2.2.1 b j, fun b j => if b = μ.1.length then none else μ.2.2.2 b j)
def znw (μ : zS) (K : zK) : Option (Nat × zS) := some (μ.1.length, zNew μ K)
theorem zWs_new (g : zG) (μ : zS) (K : zK) : zWs g (zNew μ K) = zWs g μ ++ [(zB g + μ.1.length, zE g (zNew μ K) μ.1.length K)] := by
  apply List.ext_getElem?
  intro j
  rw [zWs_at]
  have hlen : (zWs g μ).length = μ.1.length := by simp [zWs]
  rcases Nat.lt_trichotomy j μ.1.length with h | h | h
  · rw [List.getElem?_append_left (by rw [hlen]; exact h), zWs_at]
    show ((μ.1 ++ [K])[j]?).map _ = _
    rw [List.getElem?_append_left h]
    cases hK : μ.1[j]? with
    | none => rfl
    | some K' =>
      simp only [Option.map_some]
      rw [zE_congr (μ := μ) (μ' := zNew μ K) (b := j) (by funext i; simp [zNew, Nat.ne_of_lt h]) (by funext i; simp [zNew, Nat.ne_of_lt h]) (by funext i; simp [zNew, Nat.ne_of_lt h])]
  · subst h
    rw [List.getElem?_append_right (by rw [hlen]; exact Nat.le_refl _)]
    show ((μ.1 ++ [K])[μ.1.length]?).map _ = _
    rw [List.getElem?_append_right (Nat.le_refl _)]
    simp [hlen]
  · show ((μ.1 ++ [K])[j]?).map _ = _
    rw [List.getElem?_eq_none (l := μ.1 ++ [K]) (by simp; omega), List.getElem?_eq_none (by rw [List.length_append, hlen]; simp; omega)]
    rfl
theorem zalloc {p : Program} {l : Launch} {e : Env} {R : Room} {s : State} {m : MethodId} {args : Array Value} {below : List Frame} {meth : Method} {c : Code} {H1 : Heap} {locs : List Loc} {Q : State → Prop} {F : JFrame} {g : zG} {μ : zS} {k n q : Nat} {e' : va_E} {K : zK} (hk : s.heap.size + k ≤ zB g + μ.1.length) (hP1 : va_P g.2.1 vwCl (zWs g μ ++ [(q, e')]) H1) (hD1 : va_D (zA g) (zWs g μ ++ [(q, e')])) (he : e' = zE g (zNew μ K) μ.1.length K) (hB : zB g ≤ s.heap.size) (hS1 : va_S (zA g) s.heap H1 locs) (h : q = zB g + μ.1.length → zR g (zNew μ K) H1 → W p l e R s m args below meth c H1 locs (k + 1) n Q F) : W p l e R s m args below meth c H1 locs (k + 1) n Q F := by
  have hlen : (zWs g μ).length = μ.1.length := by simp [zWs]
  have hq : (zWs g μ ++ [(q, e')])[μ.1.length]? = some (q, e') := by rw [List.getElem?_append_right (by omega)]; simp [hlen]
  have hqA : zB g ≤ q := hD1.2 _ _ hq
  have hap : ∀ j, j < μ.1.length → q ≠ zB g + j := by
    intro j hj hqj
    have h1 : (zWs g μ ++ [(q, e')])[j]? = some (zB g + j, zE g μ j (μ.1[j])) := by
      rw [List.getElem?_append_left (by omega)]
      exact zWs_get (List.getElem?_eq_getElem hj)
    have := hD1.1 _ _ _ _ hq h1 hqj
    omega
  intro T hT X
  have h1 : T.heap.size ≤ s.heap.size + (k + 1) := X.heapSize
  rw [hT] at h1
  have hlt : q < H1.size := (hP1 _ _ hq).lt
  have hqe : q = zB g + μ.1.length := by
    rcases Nat.lt_or_ge q (zB g + μ.1.length) with h2 | h2
    · exact absurd (show q = zB g + (q - zB g) by omega) (hap (q - zB g) (by omega))
    · omega
  subst he
  refine h hqe ⟨?_, ?_⟩ T hT X
  · show H1.size = zB g + (μ.1 ++ [K]).length
    rw [List.length_append]
    simp
    omega
  · rw [zWs_new, ← hqe]
    exact hP1
section ZR
variable {τ : Type} {g : zG} {y : zY} {d mc ms : Nat} {w : τ → Option Value × zS} {o : τ} {k n pc : Nat} {ls : List (Option Value)} {st stk : List Value} {μ : zS} {f : Option τ}
theorem zj_objInit {idx : Nat} {r : Option Nat} {f : Option τ} (hr : ∃ a, r = some a) (hl : Cond.methodLink y.1.cls idx Lib.objectInit ∈ gtbl) (h2 : Cond.instanceMethod Lib.objectInit ∈ gtbl) (h3 : Cond.code Lib.objectInit ⟨#[0xb1]⟩ 1 none ∈ gtbl) (hd1 : 1 ≤ d) (h8 : (st.map fun v => v.category).sum ≤ 8) (hd : decode y.2.1 pc = .ok (.invokespecial idx, 3)) (kk : zJ g y d mc ms w o k n (pc + 3) ls st μ f) : zJ g y d mc ms w o k n pc ls (zr g r :: st) μ f := by
  intro hf p e s m args below meth c H locs A hC hR hS hlA hk
  obtain ⟨a, rfl⟩ := hr
  have hts := hC.2.2.2.2.2.1
  exact W.objInit hC.1 hC.2.1 hC.2.2.2.2.1 (hts _ hl) (hts _ h2) (hts _ h3) rfl (hlA.1.trans hC.2.2.2.1.symm) (a := zB g + a) rfl hd hd1 (by
    show 2 * 0 + _ + 12 ≤ 80 * d
    omega) (kk hf p e s m args below meth c H locs A hC hR hS hlA hk)
theorem zj_new {idx ci : Nat} {C : String} {T : u_T} {N : Nat} {f : Nat → zS → Option τ} (hcl : zCls ci C T N) (hdf : ∀ j, j < N → (zft ci).getD j .int ≠ .float ∧ (zft ci).getD j .int ≠ .double) (h1 : Cond.classLink y.1.cls idx C ∈ gtbl) (h2 : Cond.instantiable C N ∈ gtbl) (h3 : Cond.initialized C ∈ gtbl) (hb : k + 1 ≤ mc ∧ n + N ≤ ms) (hd : decode y.2.1 pc = .ok (.new idx, 3)) (kk : ∀ a μ', zJ g y d mc ms w o (k + 1) (n + N) (pc + 3) ls (zr g (some a) :: st) μ' (f a μ')) : zJ g y d mc ms w o k n pc ls st μ ((znw μ (.inr ci)).bind (zk f)) := by
  intro hf p e s m args below meth c H locs A hC hR hS hl hk
  have hts := hC.2.2.2.2.2.1
  refine va_new (ci := ci) (fs := zfs g (zNew μ (.inr ci)) μ.1.length (zft ci)) (C := C) (T := T) (N := N) hC.1 hC.2.1 hts hcl.2.2.2.2 (fun j => (zft ci).getD j .int) hcl.2.2.1 hC.2.2.2.2.1 (hts _ h1) (hts _ h2) (hts _ h3) hC.2.2.2.2.2.2.1 hR.2 (zD μ) hS (fun q hq => Nat.le_trans hC.2.2.2.2.2.2.2.2.2.1 hq) hcl.1 (fun j hj => ?_) hb.1 hb.2 hd (fun q H1 hP1 hD1 hS1 => ?_)
  · have hjl : j < (zft ci).length := by rw [hcl.2.1]; exact hj
    have hz := hdf j hj
    unfold vp_V
    simp only [List.getD_eq_getElem?_getD] at hz ⊢
    rw [zfs_at]
    rw [List.getElem?_eq_getElem hjl] at hz ⊢
    simp only [Option.map_some, Option.getD_some] at hz ⊢
    cases hty : (zft ci)[j] <;> simp [hty, zv, zNew, defaultValue, zr, va_rf] at hz ⊢
  · refine zalloc (K := .inr ci) hk hP1 hD1 rfl hC.2.2.2.2.2.2.2.2.2.1 hS1 (fun hq hR1 => ?_)
    rw [hq]
    exact kk μ.1.length (zNew μ (.inr ci)) hf p e s m args below meth c H1 locs A hC hR1 hS1 hl (by show _ ≤ zB g + (μ.1 ++ [_]).length; rw [List.length_append]; simp; omega)
theorem zj_newa {atype : ArrayType} {ty : FieldType} {len : Int32} {N : Nat} {f : Nat → zS → Option τ} (t0 : Nat) (hty : newarray.typeOf atype = ty) (ht : (ztys g)[t0]? = some (g.2.2.1 ty, ty)) (hz : (ty = .int ∨ ty = .boolean ∨ ty = .char) ∨ ty = .long) (ha : Cond.arrayClass ty ∈ gtbl) (hn : ¬ len < 0) (hN : len.toNatClampNeg = N) (hby : N ≤ 10000) (hb : k + 1 ≤ mc ∧ n + N ≤ ms) (hd : decode y.2.1 pc = .ok (.newarray atype, 2)) (kk : ∀ a μ', zJ g y d mc ms w o (k + 1) (n + N) (pc + 2) ls (zr g (some a) :: st) μ' (f a μ')) : zJ g y d mc ms w o k n pc ls (.int len :: st) μ ((znw μ (.inl (ty, N))).bind (zk f)) := by
  intro hf p e s m args below meth c H locs A hC hR hS hl hk
  have hts := hC.2.2.2.2.2.1
  refine va_newa (ty := ty) (N' := N) (a0 := (N, zar g (zNew μ (.inl (ty, N))) μ.1.length ty)) hC.1 hC.2.1 (by rw [hty]; exact hts _ ha) hty hC.2.2.2.2.2.2.1 hR.2 (zD μ) hS (fun q hq => Nat.le_trans hC.2.2.2.2.2.2.2.2.2.1 hq) (fun cA => ?_) hn hN ?_ hb.1 hb.2 hd (fun q cA H1 hK1 hP1 hD1 hS1 => ?_)
  · rcases hz with (rfl | rfl | rfl) | rfl <;> simp [vp_cell, zar, zNew, defaultValue]
  · rcases hz with (rfl | rfl | rfl) | rfl <;> simp only [componentBytes] <;> omega
  · have hcA : cA = g.2.2.1 ty := by
      have h1 := (hK1.2 (ztys g).length (cA, ty) (by simp)).2
      have h2 := (hC.2.2.2.2.2.2.1.2 t0 _ ht).2
      rcases hz with (rfl | rfl | rfl) | rfl <;> exact Option.some.inj (h1.symm.trans h2)
    subst hcA
    refine zalloc (K := .inl (ty, N)) hk hP1 hD1 rfl hC.2.2.2.2.2.2.2.2.2.1 hS1 (fun hq hR1 => ?_)
    rw [hq]
    exact kk μ.1.length (zNew μ (.inl (ty, N))) hf p e s m args below meth c H1 locs A hC hR1 hS1 hl (by show _ ≤ zB g + (μ.1 ++ [_]).length; rw [List.length_append]; simp; omega)
theorem zj_anew {idx : Nat} {C : String} {len : Int32} {N : Nat} {f : Nat → zS → Option τ} (t0 : Nat) (ht : (ztys g)[t0]? = some (g.2.2.1 (.object C), .object C)) (hao : ∀ s, zOld g s → va_AO C s) (h1 : Cond.classLink y.1.cls idx C ∈ gtbl) (hn : ¬ len < 0) (hN : len.toNatClampNeg = N) (hby : N ≤ 10000) (hb : k + 1 ≤ mc ∧ n + N ≤ ms) (hd : decode y.2.1 pc = .ok (.anewarray idx, 3)) (kk : ∀ a μ', zJ g y d mc ms w o (k + 1) (n + N) (pc + 3) ls (zr g (some a) :: st) μ' (f a μ')) : zJ g y d mc ms w o k n pc ls (.int len :: st) μ ((znw μ (.inl (.object C, N))).bind (zk f)) := by
  intro hf p e s m args below meth c H locs A hC hR hS hl hk
  have hts := hC.2.2.2.2.2.1
  refine va_newq (N' := N) hC.1 hC.2.1 hC.2.2.2.2.1 (hts _ h1) (hao s hC.2.2.2.2.2.2.2.2.2.2) hC.2.2.2.2.2.2.1 hR.2 (zD μ) hS (fun q hq => Nat.le_trans hC.2.2.2.2.2.2.2.2.2.1 hq) hn hN (by omega) hb.1 hb.2 hd (fun q cA H1 hK1 hP1 hD1 hS1 => ?_)
  have hcA : cA = g.2.2.1 (.object C) := by
    obtain ⟨_, _, -, -, -, h1⟩ := (hK1.2 (ztys g).length (cA, .object C) (by simp)).2
    obtain ⟨_, _, -, -, -, h2⟩ := (hC.2.2.2.2.2.2.1.2 t0 _ ht).2
    exact Option.some.inj (h1.symm.trans h2)
  subst hcA
  refine zalloc (K := .inl (.object C, N)) hk hP1 hD1 (by simp [zE, zar, zNew]) hC.2.2.2.2.2.2.2.2.2.1 hS1 (fun hq hR1 => ?_)
  rw [hq]
  exact kk μ.1.length (zNew μ (.inl (.object C, N))) hf p e s m args below meth c H1 locs A hC hR1 hS1 hl (by show _ ≤ zB g + (μ.1 ++ [_]).length; rw [List.length_append]; simp; omega)
/-- System.arraycopy of ints -/
def zcp (μ : zS) (r1 : Option Nat) (i : Int32) (r2 : Option Nat) (j len : Int32) : Option zS := match r1, r2 with
  | some a, some b => match μ.1[a]?, μ.1[b]? with
    | some (.inl q1), some (.inl q2) => if (q1.1 = .int ∧ q2.1 = .int) ∧ ¬ i < 0 ∧ ¬ j < 0 ∧ ¬ len < 0 ∧ i.toNatClampNeg + len.toNatClampNeg ≤ q1.2 ∧ j.toNatClampNeg + len.toNatClampNeg ≤ q2.2 then some (μ.1, fun c h => if c = b then va_cpy (μ.2.1 a) (μ.2.1 b) i.toNatClampNeg j.toNatClampNeg len.toNatClampNeg h else μ.2.1 c h, μ.2.2) else none
    | _, _ => none
  | _, _ => none
theorem zcp_some {μ : zS} {r1 r2 : Option Nat} {i j len : Int32} {o2 : zS} (h : zcp μ r1 i r2 j len = some o2) : ∃ a b n1 n2, r1 = some a ∧ r2 = some b ∧ μ.1[a]? = some (.inl (.int, n1)) ∧ μ.1[b]? = some (.inl (.int, n2)) ∧ ¬ i < 0 ∧ ¬ j < 0 ∧ ¬ len < 0 ∧ i.toNatClampNeg + len.toNatClampNeg ≤ n1 ∧ j.toNatClampNeg + len.toNatClampNeg ≤ n2 ∧ o2 = (μ.1, fun c h => if c = b then va_cpy (μ.2.1 a) (μ.2.1 b) i.toNatClampNeg j.toNatClampNeg len.toNatClampNeg h else μ.2.1 c h, μ.2.2) := by
  cases r1 with
  | none => cases h
  | some a =>
    cases r2 with
    | none => cases h
    | some b =>
      simp only [zcp] at h
      cases ha : μ.1[a]? with
      | none => rw [ha] at h; cases h
      | some K1 =>
        cases hb : μ.1[b]? with
        | none => rw [ha, hb] at h; cases K1 <;> cases h
        | some K2 =>
          rw [ha, hb] at h
          cases K1 with
          | inr _ => cases h
          | inl q1 =>
            cases K2 with
            | inr _ => cases h
            | inl q2 =>
              obtain ⟨t1, n1⟩ := q1
              obtain ⟨t2, n2⟩ := q2
              dsimp only at h
              split at h
              · rename_i hc
                obtain ⟨⟨rfl, rfl⟩, h1, h2, h3, h4, h5⟩ := hc
                cases h
                exact ⟨a, b, n1, n2, rfl, rfl, ha, hb, h1, h2, h3, h4, h5, rfl⟩
              · cases h
theorem zj_acopy {idx : Nat} {r1 r2 : Option Nat} {i j len : Int32} {f : zS → Option τ} (hl : Cond.methodLink y.1.cls idx arraycopyName ∈ gtbl) (h1 : Cond.native arraycopyName ∈ gtbl) (h2 : Cond.static arraycopyName ∈ gtbl) (h3 : Cond.initialized "java/lang/System" ∈ gtbl) (hd1 : 2 ≤ d) (h8 : (st.map fun v => v.category).sum ≤ 8) (hd : decode y.2.1 pc = .ok (.invokestatic idx, 3)) (kk : ∀ μ', zJ g y d mc ms w o k n (pc + 3) ls st μ' (f μ')) : zJ g y d mc ms w o k n pc ls (.int len :: .int j :: zr g r2 :: .int i :: zr g r1 :: st) μ ((zcp μ r1 i r2 j len).bind f) := by
  intro hf p e s m args below meth c H locs A hC hR hS hlA hk
  obtain ⟨o2, q1, hf2⟩ := zbind_some hf
  obtain ⟨a, b, n1, n2, rfl, rfl, ha, hb, g1, g2, g3, g4, g5, ho⟩ := zcp_some q1
  have hts := hC.2.2.2.2.2.1
  refine va_copyi (ty := .int) hC.1 hC.2.1 (hC.2.2.2.1.trans hlA.1.symm) hC.2.2.2.2.1 (hts _ hl) (hts _ h1) (hts _ h2) (hts _ h3) hC.2.2.2.2.2.2.1 hR.2 (zD μ) hS a b 0 0 (zWs_get ha) (zWs_get hb) rfl rfl rfl g1 g2 g3 g4 g5 (fun _ _ => rfl) (by show 1 ≤ d; omega) (by
    have hw : nativeFrameWords "java/lang/System" "arraycopy" 5 + 11 ≤ 152 := by decide
    show _ ≤ 80 * d
    omega) hd (fun H1 locs1 hP1 _ hS1 => ?_)
  rw [zWs_set (μ' := o2) (K := .inl (.int, n2)) hb (by rw [ho]) (fun x hx K' => zE_congr (by rw [ho]; funext z; simp [hx]) (by rw [ho]) (by rw [ho]) K') (by rw [ho]; simp [zE, zar])] at hP1
  have hk2 : s.heap.size + k ≤ zB g + o2.1.length := by rw [ho]; exact hk
  exact zsz (μ := o2) hk2 hC.2.2.2.2.2.2.2.2.2.1 hP1 hS1 (fun hR1 => kk o2 hf2 p e s m args below meth c H1 locs1 A hC hR1 hS1 hlA hk2)
end ZR
theorem znfO (C : String) : ∀ u : Value, (u = .null ∨ ∃ a, u = .ref a) → narrow (.object C) u = u ∧ fits (.object C) u = true := by rintro u (rfl | ⟨a, rfl⟩) <;> exact ⟨rfl, rfl⟩
theorem znfA (t : FieldType) : ∀ u : Value, (u = .null ∨ ∃ a, u = .ref a) → narrow (.array t) u = u ∧ fits (.array t) u = true := by rintro u (rfl | ⟨a, rfl⟩) <;> exact ⟨rfl, rfl⟩
def zFU : Nat := 100000
theorem zcI (v : Int32) : (Value.int v).category = 1 := rfl
theorem zcJ (v : Int64) : (Value.long v).category = 2 := rfl
theorem zMt_of2 {g : zG} {y : zY} {d mc ms : Nat} {av : List Value} {μ : zS} {ov : Option Value} {μ1 : zS} {ls : List (Option Value)} (j : Nat) (hy : plainName y.1.cls = true) (hlen : (lg_sl av).length ≤ y.2.2.1) (hls : zal av ++ List.replicate j none = ls) (h : zW g y d mc ms ov μ1 0 0 0 ls [] μ) : zMt g y d mc ms av μ ov μ1 := by
  refine zMt_of hy hlen (fun i v hi => ?_) h
  rw [← hls] at hi
  by_cases hlt : i < (zal av).length
  · rwa [List.getElem?_append_left hlt] at hi
  · rw [List.getElem?_append_right (by omega)] at hi
    have := List.mem_of_getElem? hi
    rw [List.mem_replicate] at this
    cases this.2
