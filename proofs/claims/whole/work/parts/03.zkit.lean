/-! MEMORY AS FUNCTIONS, CODE AS FUNCTIONAL PROGRAMS. The heap from the law's entry on is a list of kinds (what each cell is) and three functions (ints, longs, references) by cell and place; zJ says: the code at pc, from this state on, does what the program f says. -/
abbrev zK : Type := (FieldType × Nat) ⊕ Nat
abbrev zS : Type := List zK × (Nat → Nat → Int32) × (Nat → Nat → Int64) × (Nat → Nat → Option Nat)
/-- launch, the classes' numbers and slots, the arrays' classes, the first own address, old rows of ints, the address of UNDER, the Strings' and their bytes' addresses -/
abbrev zG : Type := Launch × va_G × (FieldType → ClassId) × Nat × List (Nat × Nat × (Nat → Int32)) × Nat × (Nat → Nat) × (Nat → Nat)
abbrev zB (g : zG) : Nat := g.2.2.2.1
abbrev zA (g : zG) : Nat → Prop := fun a => zB g ≤ a
def zr (g : zG) (r : Option Nat) : Value := va_rf (r.map (fun a => zB g + a))
def zv (g : zG) (μ : zS) (a j : Nat) (ty : FieldType) : Value := match ty with
  | .long => .long (μ.2.2.1 a j)
  | .object _ => zr g (μ.2.2.2 a j)
  | .array _ => zr g (μ.2.2.2 a j)
  | _ => .int (μ.2.1 a j)
def zfs (g : zG) (μ : zS) (a : Nat) (tys : List FieldType) : List Value := tys.zipIdx.map (fun q => zv g μ a q.2 q.1)
def zar (g : zG) (μ : zS) (a : Nat) (ty : FieldType) : (Nat → Int32) ⊕ (Nat → Int64) ⊕ (Nat → UInt32) ⊕ (Nat → UInt64) ⊕ (Nat → Option Nat) := match ty with
  | .long => .inr (.inl (μ.2.2.1 a))
  | .object _ => .inr (.inr (.inr (.inr (fun j => (μ.2.2.2 a j).map (fun q => zB g + q)))))
  | _ => .inl (μ.2.1 a)
def zE (g : zG) (μ : zS) (a : Nat) (k : zK) : va_E := match k with
  | .inl q => .inl (g.2.2.1 q.1, q.2, zar g μ a q.1)
  | .inr ci => .inr (ci, zfs g μ a (zft ci))
def zWs (g : zG) (μ : zS) : va_W := μ.1.zipIdx.map (fun q => (zB g + q.2, zE g μ q.2 q.1))
def zR (g : zG) (μ : zS) (H : Heap) : Prop := H.size = zB g + μ.1.length ∧ va_P g.2.1 vwCl (zWs g μ) H
def ztys (g : zG) : List (ClassId × FieldType) := [(g.2.2.1 .int, .int), (g.2.2.1 .boolean, .boolean), (g.2.2.1 .char, .char), (g.2.2.1 .long, .long), (g.2.2.1 (.object "PostsFilled$Person"), .object "PostsFilled$Person"), (g.2.2.1 (.object "PostsFilled$Text"), .object "PostsFilled$Text"), (g.2.2.1 (.object "PostsFilled$Sheet"), .object "PostsFilled$Sheet")]
/-- UNDER -/
def zUnd (j : Nat) : Int32 := [-1, 0, 0, 1, 2, 0].getD j 0
def zlen : List Nat := [75, 60]
def zcd (c : Char) : Int32 := Int32.ofNat c.toNat
def zt1 : String := "well 5 + own * 5 - years * ( 1 - own ) ; cost 3 + value - number ; pay 10 ;"
def zt2 : String := "own number years must value taught well cost pay or and not "
def zbyt : List (List Int32) := [zt1.toList.map zcd, zt2.toList.map zcd]
/-- what was there before the law began: rows of ints, UNDER, the Strings, and words that a call does not carry by itself -/
def zOld (g : zG) (U : State) : Prop :=
  (∀ q ∈ g.2.2.2.2.1, va_T .int q.1 q.2.1 (fun j => .int (q.2.2 j)) (zA g) U U.heap) ∧ (va_Z "PostsFilled$Person" "UNDER" "[I" (.ref g.2.2.2.2.2.1) (zA g) U U.heap ∧ va_T .int g.2.2.2.2.2.1 6 (fun j => .int (zUnd j)) (zA g) U U.heap) ∧ va_Z "java/lang/String" "COMPACT_STRINGS" "Z" (.int 1) (zA g) U U.heap ∧
  vk_S 2 zlen zbyt g.2.2.2.2.2.2.1 g.2.2.2.2.2.2.2 (zA g) U U.heap ∧ vk_R "PostsFilled" 94 zt1 (g.2.2.2.2.2.2.1 0) U ∧ vk_R "PostsFilled$Reader" 100 zt2 (g.2.2.2.2.2.2.1 1) U ∧ (∀ (a : String) (i : Nat) (x : MethodName) (h : String), Cond.methodLinkNest a i x h ∈ lw_tbl → va_Nw (.methodLinkNest a i x h) U) ∧
  va_AO "PostsFilled$Person" U ∧ va_AO "PostsFilled$Text" U ∧ va_AO "PostsFilled$Sheet" U ∧ (∃ v : Value, (v = .null ∨ ∃ a, v = .ref a) ∧ va_Z "jdk/internal/util/Preconditions" "SIOOBE_FORMATTER" "Ljava/util/function/BiFunction;" v (zA g) U U.heap)
def zC (g : zG) (y : zY) (p : Program) (s : State) (m : MethodId) (args : Array Value) (meth : Method) (c : Code) : Prop :=
  p.tables.exec = Jvm.exec ∧ c.code = y.2.1 ∧ meth.sig.returnType = y.2.2.2 ∧ c.maxLocals = y.2.2.1 ∧ s.vm.findClass y.1.cls = some m.cls ∧ (∀ w ∈ gtbl, w.before args s = true) ∧ va_K g.2.1 vwCl (ztys g) s ∧ meth.locks = false ∧ meth.name = y.1.name ∧ zB g ≤ s.heap.size ∧ zOld g s
def zLs (A : Array Slot) (n : Nat) (ls : List (Option Value)) : Prop := A.size = n ∧ lv_wf A ∧ ∀ (i : Nat) (v : Value), ls[i]? = some (some v) → A[i]? = some (.val v)
abbrev zRm (d mc ms : Nat) : Room := { frames := d, cells := mc, slots := ms, locals := 80 * d }
def zQ (g : zG) (mc : Nat) (ov : Option Value) (μ1 : zS) : Array Value → State → Outcome → State → Prop := fun _ st oc t => oc = .returned ov ∧ zR g μ1 t.heap ∧ va_F (zA g) st t ∧ st.heap.size + mc ≤ t.heap.size
/-- from this state the method ends with the answer ov and the memory μ1 -/
def zW (g : zG) (y : zY) (d mc ms : Nat) (ov : Option Value) (μ1 : zS) (k n pc : Nat) (ls : List (Option Value)) (st : List Value) (μ : zS) : Prop :=
  ∀ (p : Program) (e : Env) (s : State) (m : MethodId) (args : Array Value) (below : List Frame) (meth : Method) (c : Code) (H : Heap) (locs : List Loc) (A : Array Slot), zC g y p s m args meth c → zR g μ H → va_S (zA g) s.heap H locs → zLs A y.2.2.1 ls → s.heap.size + k ≤ zB g + μ.1.length →
    W p g.1 e (zRm d mc ms) s m args below meth c H locs k n (MQ below (zQ g mc ov μ1) args s mc ms (zA g)) (F0 m pc A st)
def zJ {τ : Type} (g : zG) (y : zY) (d mc ms : Nat) (w : τ → Option Value × zS) (o : τ) (k n pc : Nat) (ls : List (Option Value)) (st : List Value) (μ : zS) (f : Option τ) : Prop := f = some o → zW g y d mc ms (w o).1 (w o).2 k n pc ls st μ
def zws (y : zY) : List Cond := .code y.1 y.2.1 y.2.2.1 y.2.2.2 :: gtbl
def zU (g : zG) (μ : zS) (U : State) : Prop := zB g ≤ U.heap.size ∧ zR g μ U.heap ∧ va_K g.2.1 vwCl (ztys g) U ∧ zOld g U
def zMt (g : zG) (y : zY) (d mc ms : Nat) (av : List Value) (μ : zS) (ov : Option Value) (μ1 : zS) : Prop := Met g.1 y.1 (zws y) (zRm d mc ms) (va_Pc av (zU g μ)) (zQ g mc ov μ1) mc ms (zA g)
def zwI : Int32 × zS → Option Value × zS := fun q => (some (.int q.1), q.2)
def zwJ : Int64 × zS → Option Value × zS := fun q => (some (.long q.1), q.2)
def zwV : zS → Option Value × zS := fun u => (none, u)
def zwIp (μ : zS) : Int32 → Option Value × zS := fun v => (some (.int v), μ)
def zwJp (μ : zS) : Int64 → Option Value × zS := fun v => (some (.long v), μ)
-- ===== lists =====
theorem zWs_at (g : zG) (μ : zS) (k : Nat) : (zWs g μ)[k]? = (μ.1[k]?).map (fun K => (zB g + k, zE g μ k K)) := by
  unfold zWs
  rw [List.getElem?_map, List.getElem?_zipIdx]
  cases μ.1[k]? with
  | none => rfl
  | some K => simp
theorem zWs_get {g : zG} {μ : zS} {a : Nat} {K : zK} (h : μ.1[a]? = some K) : (zWs g μ)[a]? = some (zB g + a, zE g μ a K) := by rw [zWs_at, h]; rfl
theorem zfs_at (g : zG) (μ : zS) (a : Nat) (tys : List FieldType) (k : Nat) : (zfs g μ a tys)[k]? = (tys[k]?).map (fun ty => zv g μ a k ty) := by
  unfold zfs
  rw [List.getElem?_map, List.getElem?_zipIdx]
  cases tys[k]? with
  | none => rfl
  | some K => simp
theorem zfs_len (g : zG) (μ : zS) (a : Nat) (tys : List FieldType) : (zfs g μ a tys).length = tys.length := by simp [zfs]
theorem zD {g : zG} (μ : zS) : va_D (zA g) (zWs g μ) := by
  have key : ∀ (k : Nat) (q : Nat × va_E), (zWs g μ)[k]? = some q → q.1 = zB g + k := by
    intro k q h
    rw [zWs_at] at h
    cases hk : μ.1[k]? with
    | none => rw [hk] at h; cases h
    | some K => rw [hk] at h; cases h; rfl
  refine ⟨fun i j p q hp hq e => ?_, fun k q h => ?_⟩
  · have h1 := key i p hp
    have h2 := key j q hq
    omega
  · have := key k q h
    show zB g ≤ q.1
    omega
-- ===== old things stay =====
theorem zOld.moved {g : zG} {s U : State} {locs : List Loc} (hW : s.WarmedH U.vm) (hS : va_S (zA g) s.heap U.heap locs) (h : zOld g s) : zOld g U := by
  obtain ⟨h1, h2, h3, h4, h5, h6, h7, h8, h9, h10, v11, h11, h12⟩ := h
  have hk : ∀ a : Nat, a < s.heap.size → ¬ zA g a → U.heap[a]? = s.heap[a]? := fun a h1 h2 => hS.2.1 a h1 h2
  have hal := hW.alike
  refine ⟨fun q hq => ((h1 q hq).moved hal).kept hk, ⟨(h2.1.moved hal).kept hk, (h2.2.moved hal).kept hk⟩, (h3.moved hal).kept hk, (h4.moved hal).kept hk, h5.warm hW, h6.warm hW, fun a i x h hw => va_Nw.warmM hW (h7 a i x h hw), h8.moved hal, h9.moved hal, h10.moved hal, v11, h11, (h12.moved hal).kept hk⟩
