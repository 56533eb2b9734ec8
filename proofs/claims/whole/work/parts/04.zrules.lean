-- ===== locals =====
def zpr (ls : List (Option Value)) : List (Nat × Value) := ls.zipIdx.filterMap (fun q => q.1.map (fun v => (q.2, v)))
theorem zpr_mem {ls : List (Option Value)} {i : Nat} {v : Value} : (i, v) ∈ zpr ls ↔ ls[i]? = some (some v) := by
  unfold zpr
  rw [List.mem_filterMap]
  constructor
  · rintro ⟨⟨ov, j⟩, hm, he⟩
    have h1 := List.mem_zipIdx_iff_getElem?.mp hm
    cases ov with
    | none => cases he
    | some w => cases he; exact h1
  · intro h
    exact ⟨(some v, i), List.mem_zipIdx_iff_getElem?.mpr h, rfl⟩
theorem zLs.has {A : Array Slot} {n : Nat} {ls : List (Option Value)} (h : zLs A n ls) : lv_has A n (zpr ls) := ⟨h.1, h.2.1, fun q hq => h.2.2 q.1 q.2 (zpr_mem.mp hq)⟩
/-- the place ahead holds no long -/
def zNL (ls : List (Option Value)) (i : Nat) : Bool := match i with
  | 0 => true
  | j + 1 => match ls[j]? with
    | some (some v) => v.category == 1
    | _ => true
theorem zLs.st1 {A : Array Slot} {n i : Nat} {ls : List (Option Value)} {v : Value} (hnl : zNL ls i = true) (h : lv_has A n ((i, v) :: (zpr ls).filter (fun q => !(q.1 == i) && !(q.1 + 1 == i && q.2.category == 2)))) : zLs A n (ls.set i (some v)) := by
  refine ⟨h.1, h.2.1, fun j w hj => ?_⟩
  by_cases hij : i = j
  · subst hij
    by_cases hlt : i < ls.length
    · rw [List.getElem?_set_self hlt] at hj
      cases hj
      exact h.2.2 (i, v) List.mem_cons_self
    · rw [List.getElem?_eq_none (by simp; omega)] at hj
      cases hj
  · rw [List.getElem?_set_ne hij] at hj
    refine h.2.2 (j, w) (List.mem_cons_of_mem _ (List.mem_filter.mpr ⟨zpr_mem.mpr hj, ?_⟩))
    have h1 : (j == i) = false := by simp; exact fun q => hij q.symm
    by_cases h2 : j + 1 = i
    · subst h2
      simp only [zNL, hj, beq_iff_eq] at hnl
      simp [hnl]
    · simp [h2]; exact fun q => hij q.symm
theorem zLs.st2 {A : Array Slot} {n i : Nat} {ls : List (Option Value)} {v : Value} (hnl : zNL ls i = true) (h : lv_has A n ((i, v) :: (zpr ls).filter (fun q => !(q.1 == i) && (!(q.1 == i + 1) && !(q.1 + 1 == i && q.2.category == 2))))) : zLs A n ((ls.set i (some v)).set (i + 1) none) := by
  refine ⟨h.1, h.2.1, fun j w hj => ?_⟩
  by_cases hj2 : i + 1 = j
  · subst hj2
    by_cases hlt : i + 1 < (ls.set i (some v)).length
    · rw [List.getElem?_set_self hlt] at hj
      cases hj
    · rw [List.getElem?_eq_none (by simp at hlt ⊢; omega)] at hj
      cases hj
  · rw [List.getElem?_set_ne hj2] at hj
    by_cases hij : i = j
    · subst hij
      by_cases hlt : i < ls.length
      · rw [List.getElem?_set_self hlt] at hj
        cases hj
        exact h.2.2 (i, v) List.mem_cons_self
      · rw [List.getElem?_eq_none (by simp; omega)] at hj
        cases hj
    · rw [List.getElem?_set_ne hij] at hj
      refine h.2.2 (j, w) (List.mem_cons_of_mem _ (List.mem_filter.mpr ⟨zpr_mem.mpr hj, ?_⟩))
      by_cases h2 : j + 1 = i
      · subst h2
        simp only [zNL, hj, beq_iff_eq] at hnl
        simp [hnl]
        omega
      · simp [h2]
        exact ⟨fun q => hij q.symm, fun q => hj2 q.symm⟩
theorem zLs.sub {A : Array Slot} {n : Nat} {ls ls' : List (Option Value)} (h : zLs A n ls) (hs : ∀ (i : Nat) (v : Value), ls'[i]? = some (some v) → ls[i]? = some (some v)) : zLs A n ls' := ⟨h.1, h.2.1, fun i v hv => h.2.2 i v (hs i v hv)⟩
section ZR
variable {τ : Type} {g : zG} {y : zY} {d mc ms : Nat} {w : τ → Option Value × zS} {o : τ} {k n pc : Nat} {ls : List (Option Value)} {st : List Value} {μ : zS} {f f1 f2 : Option τ}
/-- an instruction that leaves heap and locals -/
theorem zj_s {pc2 : Nat} {st2 : List Value} (h : ∀ (p : Program) (e : Env) (s : State) (m : MethodId) (args : Array Value) (below : List Frame) (meth : Method) (c : Code) (H : Heap) (locs : List Loc) (A : Array Slot) (Q : State → Prop), zC g y p s m args meth c → zLs A y.2.2.1 ls → W p g.1 e (zRm d mc ms) s m args below meth c H locs k n Q (F0 m pc2 A st2) → W p g.1 e (zRm d mc ms) s m args below meth c H locs k n Q (F0 m pc A st))
    (kk : zJ g y d mc ms w o k n pc2 ls st2 μ f) : zJ g y d mc ms w o k n pc ls st μ f :=
  fun hf p e s m args below meth c H locs A hC hR hS hl hk => h p e s m args below meth c H locs A _ hC hl (kk hf p e s m args below meth c H locs A hC hR hS hl hk)
theorem zj_iconst {i : Int} (v : Int32) (hd : decode y.2.1 pc = .ok (.iconst i, 1)) (hv : Int32.ofInt i = v) (kk : zJ g y d mc ms w o k n (pc + 1) ls (.int v :: st) μ f) : zJ g y d mc ms w o k n pc ls st μ f := zj_s (fun _ _ _ _ _ _ _ _ _ _ _ _ hC _ k => lv_iconst hC.1 hC.2.1 hd hv k) kk
theorem zj_bipush {i : Int} (v : Int32) (hd : decode y.2.1 pc = .ok (.bipush i, 2)) (hv : (Int8.ofInt i).toInt32 = v) (kk : zJ g y d mc ms w o k n (pc + 2) ls (.int v :: st) μ f) : zJ g y d mc ms w o k n pc ls st μ f := zj_s (fun _ _ _ _ _ _ _ _ _ _ _ _ hC _ k => lv_bipush hC.1 hC.2.1 hd hv k) kk
theorem zj_sipush {i : Int} (v : Int32) (hd : decode y.2.1 pc = .ok (.sipush i, 3)) (hv : (Int16.ofInt i).toInt32 = v) (kk : zJ g y d mc ms w o k n (pc + 3) ls (.int v :: st) μ f) : zJ g y d mc ms w o k n pc ls st μ f := zj_s (fun _ _ _ _ _ _ _ _ _ _ _ _ hC _ k => lv_sipush hC.1 hC.2.1 hd hv k) kk
theorem zj_lconst {i : Fin 2} (v : Int64) (hd : decode y.2.1 pc = .ok (.lconst i, 1)) (hv : Int64.ofNat (i : Nat) = v) (kk : zJ g y d mc ms w o k n (pc + 1) ls (.long v :: st) μ f) : zJ g y d mc ms w o k n pc ls st μ f := zj_s (fun _ _ _ _ _ _ _ _ _ _ _ _ hC _ k => lv_lconst hC.1 hC.2.1 hd hv k) kk
theorem zj_ldc2 {i : Nat} {v : Int64} (hc : Cond.constantLong y.1.cls i v ∈ gtbl) (hd : decode y.2.1 pc = .ok (.ldc2_w i, 3)) (kk : zJ g y d mc ms w o k n (pc + 3) ls (.long v :: st) μ f) : zJ g y d mc ms w o k n pc ls st μ f := zj_s (fun _ _ _ _ _ _ _ _ _ _ _ _ hC _ k => lv_ldc2 hC.1 hC.2.1 hC.2.2.2.2.1 (hC.2.2.2.2.2.1 _ hc) hd k) kk
theorem zj_ldcw {i : Nat} {v : Int32} (hc : Cond.constant y.1.cls i v ∈ gtbl) (hd : decode y.2.1 pc = .ok (.ldc_w i, 3)) (kk : zJ g y d mc ms w o k n (pc + 3) ls (.int v :: st) μ f) : zJ g y d mc ms w o k n pc ls st μ f := zj_s (fun _ _ _ _ _ _ _ _ _ _ _ _ hC _ k => lv_ldcw hC.1 hC.2.1 hC.2.2.2.2.1 (hC.2.2.2.2.2.1 _ hc) hd k) kk
theorem zj_ldcS0 {i : Nat} (hi : y.1.cls = "PostsFilled" ∧ i = 94) (hd : decode y.2.1 pc = .ok (.ldc i, 2)) (kk : zJ g y d mc ms w o k n (pc + 2) ls (.ref (g.2.2.2.2.2.2.1 0) :: st) μ f) : zJ g y d mc ms w o k n pc ls st μ f := zj_s (fun _ _ _ _ _ _ _ _ _ _ _ _ hC _ k => va_ldcS (own := "PostsFilled") (index := i) hC.1 hC.2.1 (hi.1 ▸ hC.2.2.2.2.1) (hi.2 ▸ hC.2.2.2.2.2.2.2.2.2.2.2.2.2.2.1) hd k) kk
theorem zj_ldcS1 {i : Nat} (hi : y.1.cls = "PostsFilled$Reader" ∧ i = 100) (hd : decode y.2.1 pc = .ok (.ldc i, 2)) (kk : zJ g y d mc ms w o k n (pc + 2) ls (.ref (g.2.2.2.2.2.2.1 1) :: st) μ f) : zJ g y d mc ms w o k n pc ls st μ f := zj_s (fun _ _ _ _ _ _ _ _ _ _ _ _ hC _ k => va_ldcS (own := "PostsFilled$Reader") (index := i) hC.1 hC.2.1 (hi.1 ▸ hC.2.2.2.2.1) (hi.2 ▸ hC.2.2.2.2.2.2.2.2.2.2.2.2.2.2.2.1) hd k) kk
theorem zj_iload_n {q : Fin 4} {x : Int32} (hd : decode y.2.1 pc = .ok (.iload_n q, 1)) (hl : ls[(q : Nat)]? = some (some (.int x))) (kk : zJ g y d mc ms w o k n (pc + 1) ls (.int x :: st) μ f) : zJ g y d mc ms w o k n pc ls st μ f := zj_s (fun _ _ _ _ _ _ _ _ _ _ _ _ hC hA k => lv_iload_n hC.1 hC.2.1 hd rfl (hA.2.2 _ _ hl) k) kk
theorem zj_iload {q : Nat} {x : Int32} (hd : decode y.2.1 pc = .ok (.iload q, 2)) (hl : ls[q]? = some (some (.int x))) (kk : zJ g y d mc ms w o k n (pc + 2) ls (.int x :: st) μ f) : zJ g y d mc ms w o k n pc ls st μ f := zj_s (fun _ _ _ _ _ _ _ _ _ _ _ _ hC hA k => lv_iload hC.1 hC.2.1 hd (hA.2.2 _ _ hl) k) kk
theorem zj_lload_n {q : Fin 4} {x : Int64} (hd : decode y.2.1 pc = .ok (.lload_n q, 1)) (hl : ls[(q : Nat)]? = some (some (.long x))) (kk : zJ g y d mc ms w o k n (pc + 1) ls (.long x :: st) μ f) : zJ g y d mc ms w o k n pc ls st μ f := zj_s (fun _ _ _ _ _ _ _ _ _ _ _ _ hC hA k => lv_lload_n hC.1 hC.2.1 hd rfl (hA.2.2 _ _ hl) k) kk
theorem zj_lload {q : Nat} {x : Int64} (hd : decode y.2.1 pc = .ok (.lload q, 2)) (hl : ls[q]? = some (some (.long x))) (kk : zJ g y d mc ms w o k n (pc + 2) ls (.long x :: st) μ f) : zJ g y d mc ms w o k n pc ls st μ f := zj_s (fun _ _ _ _ _ _ _ _ _ _ _ _ hC hA k => lv_lload hC.1 hC.2.1 hd (hA.2.2 _ _ hl) k) kk
theorem zj_aload_n {q : Fin 4} {x : Option Nat} (hd : decode y.2.1 pc = .ok (.aload_n q, 1)) (hl : ls[(q : Nat)]? = some (some (zr g x))) (kk : zJ g y d mc ms w o k n (pc + 1) ls (zr g x :: st) μ f) : zJ g y d mc ms w o k n pc ls st μ f := zj_s (fun _ _ _ _ _ _ _ _ _ _ _ _ hC hA k => by
  cases x with
  | none => exact lv_aload_nN hC.1 hC.2.1 hd rfl (hA.2.2 _ _ hl) k
  | some a => exact lv_aload_n hC.1 hC.2.1 hd rfl (hA.2.2 _ _ hl) k) kk
theorem zj_aload {q : Nat} {x : Option Nat} (hd : decode y.2.1 pc = .ok (.aload q, 2)) (hl : ls[q]? = some (some (zr g x))) (kk : zJ g y d mc ms w o k n (pc + 2) ls (zr g x :: st) μ f) : zJ g y d mc ms w o k n pc ls st μ f := zj_s (fun _ _ _ _ _ _ _ _ _ _ _ _ hC hA k => by
  cases x with
  | none => exact lv_aloadN hC.1 hC.2.1 hd (hA.2.2 _ _ hl) k
  | some a => exact lv_aload hC.1 hC.2.1 hd (hA.2.2 _ _ hl) k) kk
theorem zj_aload_o {q : Fin 4} {x : Nat} (hd : decode y.2.1 pc = .ok (.aload_n q, 1)) (hl : ls[(q : Nat)]? = some (some (.ref x))) (kk : zJ g y d mc ms w o k n (pc + 1) ls (.ref x :: st) μ f) : zJ g y d mc ms w o k n pc ls st μ f := zj_s (fun _ _ _ _ _ _ _ _ _ _ _ _ hC hA k => lv_aload_n hC.1 hC.2.1 hd rfl (hA.2.2 _ _ hl) k) kk
/-- an instruction that stores a local -/
theorem zj_l {pc2 : Nat} {st2 : List Value} {ls2 : List (Option Value)} (h : ∀ (p : Program) (e : Env) (s : State) (m : MethodId) (args : Array Value) (below : List Frame) (meth : Method) (c : Code) (H : Heap) (locs : List Loc) (A : Array Slot) (Q : State → Prop), zC g y p s m args meth c → zLs A y.2.2.1 ls → (∀ A2, zLs A2 y.2.2.1 ls2 → W p g.1 e (zRm d mc ms) s m args below meth c H locs k n Q (F0 m pc2 A2 st2)) → W p g.1 e (zRm d mc ms) s m args below meth c H locs k n Q (F0 m pc A st))
    (kk : zJ g y d mc ms w o k n pc2 ls2 st2 μ f) : zJ g y d mc ms w o k n pc ls st μ f :=
  fun hf p e s m args below meth c H locs A hC hR hS hl hk => h p e s m args below meth c H locs A _ hC hl (fun A2 hl2 => kk hf p e s m args below meth c H locs A2 hC hR hS hl2 hk)
theorem zj_istore_n {q : Fin 4} {x : Int32} (ls2 : List (Option Value)) (hd : decode y.2.1 pc = .ok (.istore_n q, 1)) (hi : (q : Nat) < y.2.2.1) (hnl : zNL ls q = true) (hs : ls.set q (some (.int x)) = ls2) (kk : zJ g y d mc ms w o k n (pc + 1) ls2 st μ f) : zJ g y d mc ms w o k n pc ls (.int x :: st) μ f := zj_l (fun _ _ _ _ _ _ _ _ _ _ _ _ hC hA k => lv_istore_n hC.1 hC.2.1 hd rfl hA.has hi rfl (fun A2 h2 => k A2 (hs ▸ zLs.st1 hnl h2))) kk
theorem zj_istore {q : Nat} {x : Int32} (ls2 : List (Option Value)) (hd : decode y.2.1 pc = .ok (.istore q, 2)) (hi : q < y.2.2.1) (hnl : zNL ls q = true) (hs : ls.set q (some (.int x)) = ls2) (kk : zJ g y d mc ms w o k n (pc + 2) ls2 st μ f) : zJ g y d mc ms w o k n pc ls (.int x :: st) μ f := zj_l (fun _ _ _ _ _ _ _ _ _ _ _ _ hC hA k => lv_istore hC.1 hC.2.1 hd hA.has hi rfl (fun A2 h2 => k A2 (hs ▸ zLs.st1 hnl h2))) kk
theorem zj_astore_n {q : Fin 4} {x : Option Nat} (ls2 : List (Option Value)) (hd : decode y.2.1 pc = .ok (.astore_n q, 1)) (hi : (q : Nat) < y.2.2.1) (hnl : zNL ls q = true) (hs : ls.set q (some (zr g x)) = ls2) (kk : zJ g y d mc ms w o k n (pc + 1) ls2 st μ f) : zJ g y d mc ms w o k n pc ls (zr g x :: st) μ f := zj_l (fun _ _ _ _ _ _ _ _ _ _ _ _ hC hA k => by
  cases x with
  | none => exact lv_astore_nN hC.1 hC.2.1 hd rfl hA.has hi rfl (fun A2 h2 => k A2 (hs ▸ zLs.st1 hnl h2))
  | some a => exact lv_astore_n hC.1 hC.2.1 hd rfl hA.has hi rfl (fun A2 h2 => k A2 (hs ▸ zLs.st1 hnl h2))) kk
theorem zj_astore {q : Nat} {x : Option Nat} (ls2 : List (Option Value)) (hd : decode y.2.1 pc = .ok (.astore q, 2)) (hi : q < y.2.2.1) (hnl : zNL ls q = true) (hs : ls.set q (some (zr g x)) = ls2) (kk : zJ g y d mc ms w o k n (pc + 2) ls2 st μ f) : zJ g y d mc ms w o k n pc ls (zr g x :: st) μ f := zj_l (fun _ _ _ _ _ _ _ _ _ _ _ _ hC hA k => by
  cases x with
  | none => exact lv_astoreN hC.1 hC.2.1 hd hA.has hi rfl (fun A2 h2 => k A2 (hs ▸ zLs.st1 hnl h2))
  | some a => exact lv_astore hC.1 hC.2.1 hd hA.has hi rfl (fun A2 h2 => k A2 (hs ▸ zLs.st1 hnl h2))) kk
theorem zj_lstore_n {q : Fin 4} {x : Int64} (ls2 : List (Option Value)) (hd : decode y.2.1 pc = .ok (.lstore_n q, 1)) (hi : (q : Nat) + 1 < y.2.2.1) (hnl : zNL ls q = true) (hs : (ls.set q (some (.long x))).set (q + 1) none = ls2) (kk : zJ g y d mc ms w o k n (pc + 1) ls2 st μ f) : zJ g y d mc ms w o k n pc ls (.long x :: st) μ f := zj_l (fun _ _ _ _ _ _ _ _ _ _ _ _ hC hA k => lv_lstore_n hC.1 hC.2.1 hd rfl hA.has hi rfl (fun A2 h2 => k A2 (hs ▸ zLs.st2 hnl h2))) kk
theorem zj_lstore {q : Nat} {x : Int64} (ls2 : List (Option Value)) (hd : decode y.2.1 pc = .ok (.lstore q, 2)) (hi : q + 1 < y.2.2.1) (hnl : zNL ls q = true) (hs : (ls.set q (some (.long x))).set (q + 1) none = ls2) (kk : zJ g y d mc ms w o k n (pc + 2) ls2 st μ f) : zJ g y d mc ms w o k n pc ls (.long x :: st) μ f := zj_l (fun _ _ _ _ _ _ _ _ _ _ _ _ hC hA k => lv_lstore hC.1 hC.2.1 hd hA.has hi rfl (fun A2 h2 => k A2 (hs ▸ zLs.st2 hnl h2))) kk
theorem zj_iinc {q : Nat} {i : Int} {x v : Int32} (ls2 : List (Option Value)) (hd : decode y.2.1 pc = .ok (.iinc q i, 3)) (hl : ls[q]? = some (some (.int x))) (hv : x + Int32.ofInt i = v) (hi : q < y.2.2.1) (hnl : zNL ls q = true) (hs : ls.set q (some (.int v)) = ls2) (kk : zJ g y d mc ms w o k n (pc + 3) ls2 st μ f) : zJ g y d mc ms w o k n pc ls st μ f := zj_l (fun _ _ _ _ _ _ _ _ _ _ _ _ hC hA k => by
  obtain ⟨j, hj⟩ := List.getElem?_of_mem (zpr_mem.mpr hl)
  exact lv_iinc hC.1 hC.2.1 hd hA.has hj hv hi rfl (fun A2 h2 => k A2 (hs ▸ zLs.st1 hnl h2))) kk
/-- fewer locals -/
theorem zj_sub (ls2 : List (Option Value)) (hs : ∀ (i : Nat) (v : Value), ls2[i]? = some (some v) → ls[i]? = some (some v)) (kk : zJ g y d mc ms w o k n pc ls2 st μ f) : zJ g y d mc ms w o k n pc ls st μ f :=
  fun hf p e s m args below meth c H locs A hC hR hS hl hk => kk hf p e s m args below meth c H locs A hC hR hS (hl.sub hs) hk
end ZR
