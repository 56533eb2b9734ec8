-- ===== reading and writing =====
/-- an object of a kind -/
def zob (μ : zS) (ci : Nat) (r : Option Nat) : Option Nat := match r with
  | some a => if μ.1[a]? = some (.inr ci) then some a else none
  | none => none
def zgI (μ : zS) (ci : Nat) (r : Option Nat) (q : Nat) : Option Int32 := (zob μ ci r).map (fun a => μ.2.1 a q)
def zgR (μ : zS) (ci : Nat) (r : Option Nat) (q : Nat) : Option (Option Nat) := (zob μ ci r).map (fun a => μ.2.2.2 a q)
def zuI (μ : zS) (a q : Nat) (v : Int32) : zS := (μ.1, fun b j => if b = a ∧ j = q then v else μ.2.1 b j, μ.2.2)
def zuJ (μ : zS) (a q : Nat) (v : Int64) : zS := (μ.1, μ.2.1, fun b j => if b = a ∧ j = q then v else μ.2.2.1 b j, μ.2.2.2)
def zuR (μ : zS) (a q : Nat) (v : Option Nat) : zS := (μ.1, μ.2.1, μ.2.2.1, fun b j => if b = a ∧ j = q then v else μ.2.2.2 b j)
def zpI (μ : zS) (ci : Nat) (r : Option Nat) (q : Nat) (v : Int32) : Option zS := (zob μ ci r).map (fun a => zuI μ a q v)
def zpZ (μ : zS) (ci : Nat) (r : Option Nat) (q : Nat) (v : Int32) : Option zS := if v = 0 ∨ v = 1 then zpI μ ci r q v else none
def zpR (μ : zS) (ci : Nat) (r : Option Nat) (q : Nat) (v : Option Nat) : Option zS := (zob μ ci r).map (fun a => zuR μ a q v)
/-- a place of a row -/
def zix (μ : zS) (ty : FieldType) (r : Option Nat) (i : Int32) : Option Nat := match r with
  | some a => match μ.1[a]? with
    | some (.inl q) => if q.1 = ty ∧ ¬ i < 0 ∧ i.toNatClampNeg < q.2 then some a else none
    | _ => none
  | none => none
def zaI (μ : zS) (ty : FieldType) (r : Option Nat) (i : Int32) : Option Int32 := (zix μ ty r i).map (fun a => μ.2.1 a i.toNatClampNeg)
def zaJ (μ : zS) (r : Option Nat) (i : Int32) : Option Int64 := (zix μ .long r i).map (fun a => μ.2.2.1 a i.toNatClampNeg)
def zaR (μ : zS) (C : String) (r : Option Nat) (i : Int32) : Option (Option Nat) := (zix μ (.object C) r i).map (fun a => μ.2.2.2 a i.toNatClampNeg)
def zsI (μ : zS) (r : Option Nat) (i v : Int32) : Option zS := (zix μ .int r i).map (fun a => zuI μ a i.toNatClampNeg v)
def zsZ (μ : zS) (r : Option Nat) (i v : Int32) : Option zS := if v = 0 ∨ v = 1 then (zix μ .boolean r i).map (fun a => zuI μ a i.toNatClampNeg v) else none
def zsC (μ : zS) (r : Option Nat) (i v : Int32) : Option zS := if vp_nar .char v = v then (zix μ .char r i).map (fun a => zuI μ a i.toNatClampNeg v) else none
def zsJ (μ : zS) (r : Option Nat) (i : Int32) (v : Int64) : Option zS := (zix μ .long r i).map (fun a => zuJ μ a i.toNatClampNeg v)
def zsR (μ : zS) (C : String) (ci : Nat) (r : Option Nat) (i : Int32) (v : Option Nat) : Option zS := (zob μ ci v).bind (fun _ => (zix μ (.object C) r i).map (fun a => zuR μ a i.toNatClampNeg v))
/-- the length of a row -/
def zln (μ : zS) (ty : FieldType) (r : Option Nat) : Option Int32 := match r with
  | some a => match μ.1[a]? with
    | some (.inl q) => if q.1 = ty then some (Int32.ofNat q.2) else none
    | _ => none
  | none => none
/-- a row of ints that was there before -/
def zol (g : zG) (t : Nat) (i : Int32) : Option Int32 := match g.2.2.2.2.1.find? (fun q => q.1 == t) with
  | some q => if ¬ i < 0 ∧ i.toNatClampNeg < q.2.1 then some (q.2.2 i.toNatClampNeg) else none
  | none => none
theorem zob_some {μ : zS} {ci : Nat} {r : Option Nat} {a : Nat} (h : zob μ ci r = some a) : r = some a ∧ μ.1[a]? = some (.inr ci) := by
  cases r with
  | none => cases h
  | some b =>
    simp only [zob] at h
    by_cases hb : μ.1[b]? = some (.inr ci)
    · rw [if_pos hb] at h; cases h; exact ⟨rfl, hb⟩
    · rw [if_neg hb] at h; cases h
theorem zix_some {μ : zS} {ty : FieldType} {r : Option Nat} {i : Int32} {a : Nat} (h : zix μ ty r i = some a) : r = some a ∧ ∃ n, μ.1[a]? = some (.inl (ty, n)) ∧ vp_in i n := by
  cases r with
  | none => cases h
  | some b =>
    simp only [zix] at h
    cases hb : μ.1[b]? with
    | none => rw [hb] at h; cases h
    | some K =>
      rw [hb] at h
      cases K with
      | inr ci => cases h
      | inl q =>
        dsimp only at h
        by_cases hc : q.1 = ty ∧ ¬ i < 0 ∧ i.toNatClampNeg < q.2
        · rw [if_pos hc] at h
          cases h
          obtain ⟨q1, q2⟩ := q
          obtain ⟨h1, h2, h3⟩ := hc
          dsimp only at h1 h2 h3
          subst h1
          exact ⟨rfl, q2, hb, fun hh => hh.elim h2 (fun h4 => by omega)⟩
        · rw [if_neg hc] at h; cases h
theorem zmap_some {α β : Type} {x : Option α} {f : α → β} {b : β} (h : x.map f = some b) : ∃ a, x = some a ∧ f a = b := by
  cases x with
  | none => cases h
  | some a => cases h; exact ⟨a, rfl, rfl⟩
theorem zbind_some {α β : Type} {x : Option α} {f : α → Option β} {b : β} (h : x.bind f = some b) : ∃ a, x = some a ∧ f a = some b := by
  cases x with
  | none => cases h
  | some a => exact ⟨a, rfl, h⟩
-- ===== the picture moves =====
theorem zE_congr {g : zG} {μ μ' : zS} {b : Nat} (h1 : μ'.2.1 b = μ.2.1 b) (h2 : μ'.2.2.1 b = μ.2.2.1 b) (h3 : μ'.2.2.2 b = μ.2.2.2 b) (K : zK) : zE g μ' b K = zE g μ b K := by
  cases K with
  | inl q =>
    obtain ⟨ty, n⟩ := q
    cases ty <;> simp [zE, zar, h1, h2, h3]
  | inr ci =>
    simp only [zE, zfs]
    congr 2
    apply List.map_congr_left
    rintro ⟨ty, j⟩ _
    cases ty <;> simp [zv, h1, h2, h3]
theorem zWs_set {g : zG} {μ μ' : zS} {a : Nat} {K : zK} {e : va_E} (h : μ.1[a]? = some K) (hL : μ'.1 = μ.1) (hoff : ∀ b, b ≠ a → ∀ K', zE g μ' b K' = zE g μ b K') (hat : zE g μ' a K = e) : (zWs g μ).set a (zB g + a, e) = zWs g μ' := by
  apply List.ext_getElem?
  intro j
  rw [zWs_at g μ' j, hL]
  by_cases hj : a = j
  · subst hj
    rw [List.getElem?_set_self (by rw [List.getElem?_eq_some_iff] at h; simp [zWs]; exact h.1), h, ← hat]
    rfl
  · rw [List.getElem?_set_ne hj, zWs_at]
    cases hK : μ.1[j]? with
    | none => rfl
    | some K' => simp [hoff j (fun q => hj q.symm) K']
theorem zuI_off (μ : zS) {a q b : Nat} (v : Int32) (h : b ≠ a) : (zuI μ a q v).2.1 b = μ.2.1 b := by funext j; simp [zuI, h]
theorem zuJ_off (μ : zS) {a q b : Nat} (v : Int64) (h : b ≠ a) : (zuJ μ a q v).2.2.1 b = μ.2.2.1 b := by funext j; simp [zuJ, h]
theorem zuR_off (μ : zS) {a q b : Nat} (v : Option Nat) (h : b ≠ a) : (zuR μ a q v).2.2.2 b = μ.2.2.2 b := by funext j; simp [zuR, h]
theorem zWs_uI {g : zG} {μ : zS} {a q : Nat} {v : Int32} {K : zK} {e : va_E} (h : μ.1[a]? = some K) (hat : zE g (zuI μ a q v) a K = e) : (zWs g μ).set a (zB g + a, e) = zWs g (zuI μ a q v) :=
  zWs_set h rfl (fun _ hb K' => zE_congr (zuI_off μ v hb) rfl rfl K') hat
theorem zWs_uJ {g : zG} {μ : zS} {a q : Nat} {v : Int64} {K : zK} {e : va_E} (h : μ.1[a]? = some K) (hat : zE g (zuJ μ a q v) a K = e) : (zWs g μ).set a (zB g + a, e) = zWs g (zuJ μ a q v) :=
  zWs_set h rfl (fun _ hb K' => zE_congr (μ := μ) (μ' := zuJ μ a q v) rfl (zuJ_off μ v hb) rfl K') hat
theorem zWs_uR {g : zG} {μ : zS} {a q : Nat} {v : Option Nat} {K : zK} {e : va_E} (h : μ.1[a]? = some K) (hat : zE g (zuR μ a q v) a K = e) : (zWs g μ).set a (zB g + a, e) = zWs g (zuR μ a q v) :=
  zWs_set h rfl (fun _ hb K' => zE_congr (μ := μ) (μ' := zuR μ a q v) rfl rfl (zuR_off μ v hb) K') hat
/-- a field of ints is set -/
theorem zfs_uI {g : zG} {μ : zS} {a q : Nat} {v : Int32} {tys : List FieldType} {ty : FieldType} (hq : tys[q]? = some ty) (hz : ∀ (g : zG) (μ : zS) (a j : Nat), zv g μ a j ty = .int (μ.2.1 a j)) : zfs g (zuI μ a q v) a tys = (zfs g μ a tys).set q (.int v) := by
  apply List.ext_getElem?
  intro j
  rw [zfs_at]
  by_cases hj : q = j
  · subst hj
    rw [List.getElem?_set_self (by rw [zfs_len]; exact (List.getElem?_eq_some_iff.mp hq).1), hq]
    simp [hz, zuI]
  · rw [List.getElem?_set_ne hj, zfs_at]
    cases tys[j]? with
    | none => rfl
    | some t => have hj2 : ¬ j = q := fun h => hj h.symm
                simp only [Option.map_some]; cases t <;> simp [zv, zuI, hj2]
theorem zfs_uR {g : zG} {μ : zS} {a q : Nat} {v : Option Nat} {tys : List FieldType} {ty : FieldType} (hq : tys[q]? = some ty) (hz : ∀ (g : zG) (μ : zS) (a j : Nat), zv g μ a j ty = zr g (μ.2.2.2 a j)) : zfs g (zuR μ a q v) a tys = (zfs g μ a tys).set q (zr g v) := by
  apply List.ext_getElem?
  intro j
  rw [zfs_at]
  by_cases hj : q = j
  · subst hj
    rw [List.getElem?_set_self (by rw [zfs_len]; exact (List.getElem?_eq_some_iff.mp hq).1), hq]
    simp [hz, zuR]
  · rw [List.getElem?_set_ne hj, zfs_at]
    cases tys[j]? with
    | none => rfl
    | some t => have hj2 : ¬ j = q := fun h => hj h.symm
                simp only [Option.map_some]; cases t <;> simp [zv, zuR, hj2]
section ZH
variable {p : Program} {l : Launch} {e : Env} {R : Room} {s : State} {m : MethodId} {args : Array Value} {below : List Frame} {meth : Method} {c : Code} {H : Heap} {locs : List Loc} {Q : State → Prop} {F : JFrame} {g : zG} {μ : zS} {k n : Nat}
theorem zsz (hk : s.heap.size + k ≤ zB g + μ.1.length) (hB : zB g ≤ s.heap.size) (hP : va_P g.2.1 vwCl (zWs g μ) H) (hS : va_S (zA g) s.heap H locs) (h : zR g μ H → W p l e R s m args below meth c H locs k n Q F) : W p l e R s m args below meth c H locs k n Q F := by
  intro T hT X
  refine h ⟨?_, hP⟩ T hT X
  have h1 : T.heap.size ≤ s.heap.size + k := X.heapSize
  rw [hT] at h1
  have h2 : s.heap.size ≤ H.size := hS.1
  have h3 : zB g + μ.1.length ≤ H.size := by
    cases hL : μ.1.length with
    | zero => omega
    | succ j =>
      have hj : j < μ.1.length := by omega
      have h4 := (hP j _ (zWs_get (List.getElem?_eq_getElem hj))).lt
      dsimp only at h4
      omega
  omega
end ZH
section ZR
variable {τ : Type} {g : zG} {y : zY} {d mc ms : Nat} {w : τ → Option Value × zS} {o : τ} {k n pc : Nat} {ls : List (Option Value)} {st : List Value} {μ : zS} {f : Option τ}
theorem zj_getI {idx ci q : Nat} {ty : FieldType} {fin : Bool} {r : Option Nat} {f : Int32 → Option τ} (hF : zFld y.1.cls idx ci q ty fin) (hz : ∀ (g : zG) (μ : zS) (a j : Nat), zv g μ a j ty = .int (μ.2.1 a j)) (hd : decode y.2.1 pc = .ok (.getfield idx, 3)) (kk : ∀ v, zJ g y d mc ms w o k n (pc + 3) ls (.int v :: st) μ (f v)) : zJ g y d mc ms w o k n pc ls (zr g r :: st) μ ((zgI μ ci r q).bind f) := by
  intro hf p e s m args below meth c H locs A hC hR hS hl hk
  obtain ⟨v, h1, hf2⟩ := zbind_some hf
  obtain ⟨a, h2, h3⟩ := zmap_some h1
  obtain ⟨rfl, hL⟩ := zob_some h2
  obtain ⟨C, T, N, hcl, hq, hty, -, -, hlk⟩ := hF
  exact va_get (D := g.2.1) (ci := ci) (v := .int v) (C := C) (T := T) (N := N) hC.1 hC.2.1 hC.2.2.2.2.2.1 hcl.2.2.2.2 hC.2.2.2.2.1 hC.2.2.2.2.2.2.1 hR.2 a (zWs_get hL) hcl.1 q hq (hC.2.2.2.2.2.1 _ hlk) (fun _ h => h) (by rw [zfs_at, hty]; simp [hz, h3]) hd (kk v hf2 p e s m args below meth c H locs A hC hR hS hl hk)
theorem zj_getR {idx ci q : Nat} {ty : FieldType} {fin : Bool} {r : Option Nat} {f : Option Nat → Option τ} (hF : zFld y.1.cls idx ci q ty fin) (hz : ∀ (g : zG) (μ : zS) (a j : Nat), zv g μ a j ty = zr g (μ.2.2.2 a j)) (hd : decode y.2.1 pc = .ok (.getfield idx, 3)) (kk : ∀ v, zJ g y d mc ms w o k n (pc + 3) ls (zr g v :: st) μ (f v)) : zJ g y d mc ms w o k n pc ls (zr g r :: st) μ ((zgR μ ci r q).bind f) := by
  intro hf p e s m args below meth c H locs A hC hR hS hl hk
  obtain ⟨v, h1, hf2⟩ := zbind_some hf
  obtain ⟨a, h2, h3⟩ := zmap_some h1
  obtain ⟨rfl, hL⟩ := zob_some h2
  obtain ⟨C, T, N, hcl, hq, hty, -, -, hlk⟩ := hF
  exact va_get (D := g.2.1) (ci := ci) (v := zr g v) (C := C) (T := T) (N := N) hC.1 hC.2.1 hC.2.2.2.2.2.1 hcl.2.2.2.2 hC.2.2.2.2.1 hC.2.2.2.2.2.2.1 hR.2 a (zWs_get hL) hcl.1 q hq (hC.2.2.2.2.2.1 _ hlk) (fun _ h => h) (by rw [zfs_at, hty]; simp [hz, h3]) hd (kk v hf2 p e s m args below meth c H locs A hC hR hS hl hk)
theorem zpd {ci : Nat} {C : String} {T : u_T} {N q : Nat} {ty : FieldType} (hcl : zCls ci C T N) (hq : q < N) (hty : (zft ci)[q]? = some ty) : parseFieldDescriptor (T q).2.2.1 = some ty := by
  rw [hcl.2.2.1 q hq, List.getD_eq_getElem?_getD, hty]; rfl
theorem zj_putI {idx ci q : Nat} {ty : FieldType} {r : Option Nat} {v : Int32} {f : zS → Option τ} (hF : zFld y.1.cls idx ci q ty false) (hz : ∀ (g : zG) (μ : zS) (a j : Nat), zv g μ a j ty = .int (μ.2.1 a j)) (hnf : narrow ty (.int v) = .int v ∧ fits ty (.int v) = true) (hd : decode y.2.1 pc = .ok (.putfield idx, 3)) (kk : ∀ μ', zJ g y d mc ms w o k n (pc + 3) ls st μ' (f μ')) : zJ g y d mc ms w o k n pc ls (.int v :: zr g r :: st) μ ((zpI μ ci r q v).bind f) := by
  intro hf p e s m args below meth c H locs A hC hR hS hl hk
  obtain ⟨μ', h1, hf2⟩ := zbind_some hf
  obtain ⟨a, h2, h3⟩ := zmap_some h1
  obtain ⟨rfl, hL⟩ := zob_some h2
  obtain ⟨C, T, N, hcl, hq, hty, hfin, -, hlk⟩ := hF
  refine va_put (D := g.2.1) (ci := ci) (v := .int v) (ty := ty) (C := C) (T := T) (N := N) hC.1 hC.2.1 hC.2.2.2.2.2.1 hcl.2.2.2.2 (fun j => (zft ci).getD j .int) hcl.2.2.1 hcl.2.2.2.1 hC.2.2.2.2.1 hC.2.2.2.2.2.2.1 hR.2 (zD μ) hS a (zWs_get hL) hcl.1 q hq (hC.2.2.2.2.2.1 _ hlk) (fun _ h => h) hfin (zpd hcl hq hty) hnf.1 hnf.2 (by rw [zfs_len, hcl.2.1]; exact hq) hd (fun H1 locs1 hP1 _ hS1 => ?_)
  have hset : (zWs g μ).set a (zB g + a, .inr (ci, (zfs g μ a (zft ci)).set q (.int v))) = zWs g μ' := by
    subst h3
    exact zWs_uI hL (by simp only [zE]; rw [zfs_uI hty hz])
  have hL1 : μ'.1 = μ.1 := by subst h3; rfl
  rw [hset] at hP1
  exact zsz (by rw [hL1]; exact hk) hC.2.2.2.2.2.2.2.2.2.1 hP1 hS1 (fun hR1 => kk μ' hf2 p e s m args below meth c H1 locs1 A hC hR1 hS1 hl (by rw [hL1]; exact hk))
theorem zj_putZ {idx ci q : Nat} {r : Option Nat} {v : Int32} {f : zS → Option τ} (hF : zFld y.1.cls idx ci q .boolean false) (hd : decode y.2.1 pc = .ok (.putfield idx, 3)) (kk : ∀ μ', zJ g y d mc ms w o k n (pc + 3) ls st μ' (f μ')) : zJ g y d mc ms w o k n pc ls (.int v :: zr g r :: st) μ ((zpZ μ ci r q v).bind f) := by
  intro hf
  unfold zpZ at hf
  by_cases hv : v = 0 ∨ v = 1
  · rw [if_pos hv] at hf
    exact zj_putI hF (fun _ _ _ _ => rfl) (by rcases hv with h | h <;> (have h : v = _ := h) <;> rw [h] <;> decide) hd kk hf
  · rw [if_neg hv] at hf; cases hf
theorem zr_cases (g : zG) (v : Option Nat) : zr g v = .null ∨ ∃ a, zr g v = .ref a := by cases v <;> simp [zr, va_rf]
/-- a reference into a field (final: in a constructor) -/
theorem zj_putR {idx ci q : Nat} {ty : FieldType} {r v : Option Nat} {f : zS → Option τ} (hF : zFld y.1.cls idx ci q ty false) (hz : ∀ (g : zG) (μ : zS) (a j : Nat), zv g μ a j ty = zr g (μ.2.2.2 a j)) (hnf : ∀ u : Value, (u = .null ∨ ∃ a, u = .ref a) → narrow ty u = u ∧ fits ty u = true) (hd : decode y.2.1 pc = .ok (.putfield idx, 3)) (kk : ∀ μ', zJ g y d mc ms w o k n (pc + 3) ls st μ' (f μ')) : zJ g y d mc ms w o k n pc ls (zr g v :: zr g r :: st) μ ((zpR μ ci r q v).bind f) := by
  intro hf p e s m args below meth c H locs A hC hR hS hl hk
  obtain ⟨μ', h1, hf2⟩ := zbind_some hf
  obtain ⟨a, h2, h3⟩ := zmap_some h1
  obtain ⟨rfl, hL⟩ := zob_some h2
  obtain ⟨C, T, N, hcl, hq, hty, hfin, -, hlk⟩ := hF
  have hnf := hnf _ (zr_cases g v)
  refine va_put (D := g.2.1) (ci := ci) (v := zr g v) (ty := ty) (C := C) (T := T) (N := N) hC.1 hC.2.1 hC.2.2.2.2.2.1 hcl.2.2.2.2 (fun j => (zft ci).getD j .int) hcl.2.2.1 hcl.2.2.2.1 hC.2.2.2.2.1 hC.2.2.2.2.2.2.1 hR.2 (zD μ) hS a (zWs_get hL) hcl.1 q hq (hC.2.2.2.2.2.1 _ hlk) (fun _ h => h) hfin (zpd hcl hq hty) hnf.1 hnf.2 (by rw [zfs_len, hcl.2.1]; exact hq) hd (fun H1 locs1 hP1 _ hS1 => ?_)
  have hset : (zWs g μ).set a (zB g + a, .inr (ci, (zfs g μ a (zft ci)).set q (zr g v))) = zWs g μ' := by
    subst h3
    exact zWs_uR hL (by simp only [zE]; rw [zfs_uR hty hz])
  have hL1 : μ'.1 = μ.1 := by subst h3; rfl
  rw [hset] at hP1
  exact zsz (by rw [hL1]; exact hk) hC.2.2.2.2.2.2.2.2.2.1 hP1 hS1 (fun hR1 => kk μ' hf2 p e s m args below meth c H1 locs1 A hC hR1 hS1 hl (by rw [hL1]; exact hk))
theorem zj_putFR {idx ci q : Nat} {ty : FieldType} {r v : Option Nat} {f : zS → Option τ} (hF : zFld y.1.cls idx ci q ty true) (hown : y.1.name = "<init>" ∧ vwCl[ci]?.map (fun z => z.1) = some y.1.cls) (hz : ∀ (g : zG) (μ : zS) (a j : Nat), zv g μ a j ty = zr g (μ.2.2.2 a j)) (hnf : ∀ u : Value, (u = .null ∨ ∃ a, u = .ref a) → narrow ty u = u ∧ fits ty u = true) (hd : decode y.2.1 pc = .ok (.putfield idx, 3)) (kk : ∀ μ', zJ g y d mc ms w o k n (pc + 3) ls st μ' (f μ')) : zJ g y d mc ms w o k n pc ls (zr g v :: zr g r :: st) μ ((zpR μ ci r q v).bind f) := by
  intro hf p e s m args below meth c H locs A hC hR hS hl hk
  obtain ⟨μ', h1, hf2⟩ := zbind_some hf
  obtain ⟨a, h2, h3⟩ := zmap_some h1
  obtain ⟨rfl, hL⟩ := zob_some h2
  obtain ⟨C, T, N, hcl, hq, hty, hfin, hdc, hlk⟩ := hF
  have hnf := hnf _ (zr_cases g v)
  have hown2 : (T q).1 = y.1.cls := by
    have h5 := hown.2
    rw [hcl.1] at h5
    rw [hdc]; exact Option.some.inj h5
  refine va_putF (D := g.2.1) (ci := ci) (v := zr g v) (ty := ty) (C := C) (T := T) (N := N) hC.1 hC.2.1 hC.2.2.2.2.2.1 hcl.2.2.2.2 (fun j => (zft ci).getD j .int) hcl.2.2.1 hcl.2.2.2.1 hC.2.2.2.2.1 hC.2.2.2.2.2.2.1 hR.2 (zD μ) hS a (zWs_get hL) hcl.1 q hq (hC.2.2.2.2.2.1 _ hlk) (fun _ h => h) hfin (hC.2.2.2.2.2.2.2.2.1.trans hown.1) hown2 (zpd hcl hq hty) hnf.1 hnf.2 (by rw [zfs_len, hcl.2.1]; exact hq) hd (fun H1 locs1 hP1 _ hS1 => ?_)
  have hset : (zWs g μ).set a (zB g + a, .inr (ci, (zfs g μ a (zft ci)).set q (zr g v))) = zWs g μ' := by
    subst h3
    exact zWs_uR hL (by simp only [zE]; rw [zfs_uR hty hz])
  have hL1 : μ'.1 = μ.1 := by subst h3; rfl
  rw [hset] at hP1
  exact zsz (by rw [hL1]; exact hk) hC.2.2.2.2.2.2.2.2.2.1 hP1 hS1 (fun hR1 => kk μ' hf2 p e s m args below meth c H1 locs1 A hC hR1 hS1 hl (by rw [hL1]; exact hk))
end ZR
