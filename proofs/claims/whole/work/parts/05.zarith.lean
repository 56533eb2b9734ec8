-- ===== fewer locals, by their places =====
def zle : List (Option Value) → List (Option Value) → Prop
  | [], _ => True
  | none :: r, _ :: s => zle r s
  | some v :: r, x :: s => x = some v ∧ zle r s
  | _ :: _, [] => False
theorem zle_at : ∀ {r s : List (Option Value)}, zle r s → ∀ (i : Nat) (v : Value), r[i]? = some (some v) → s[i]? = some (some v)
  | [], _, _, i, v, h => by simp at h
  | none :: r, x :: s, hz, i, v, h => by
    cases i with
    | zero => simp at h
    | succ i => simp at h ⊢; exact zle_at (r := r) (s := s) hz i v h
  | some u :: r, x :: s, hz, i, v, h => by
    cases i with
    | zero => simp at h ⊢; rw [hz.1, h]
    | succ i => simp at h ⊢; exact zle_at (r := r) (s := s) hz.2 i v h
  | none :: _, [], hz, _, _, _ => hz.elim
  | some _ :: _, [], hz, _, _, _ => hz.elim
section ZA
variable {τ : Type} {g : zG} {y : zY} {d mc ms : Nat} {w : τ → Option Value × zS} {o : τ} {k n pc : Nat} {ls : List (Option Value)} {st : List Value} {μ : zS} {f f1 f2 : Option τ}
theorem zj_cut (ls2 : List (Option Value)) (hs : zle ls2 ls) (kk : zJ g y d mc ms w o k n pc ls2 st μ f) : zJ g y d mc ms w o k n pc ls st μ f := zj_sub ls2 (zle_at hs) kk
theorem zj_iadd {a b : Int32} (hd : decode y.2.1 pc = .ok (.iadd, 1)) (kk : zJ g y d mc ms w o k n (pc + 1) ls (.int (a + b) :: st) μ f) : zJ g y d mc ms w o k n pc ls (.int b :: .int a :: st) μ f := zj_s (fun _ _ _ _ _ _ _ _ _ _ _ _ hC _ k => lv_iadd hC.1 hC.2.1 hd k) kk
theorem zj_isub {a b : Int32} (hd : decode y.2.1 pc = .ok (.isub, 1)) (kk : zJ g y d mc ms w o k n (pc + 1) ls (.int (a - b) :: st) μ f) : zJ g y d mc ms w o k n pc ls (.int b :: .int a :: st) μ f := zj_s (fun _ _ _ _ _ _ _ _ _ _ _ _ hC _ k => lv_isub hC.1 hC.2.1 hd k) kk
theorem zj_imul {a b : Int32} (hd : decode y.2.1 pc = .ok (.imul, 1)) (kk : zJ g y d mc ms w o k n (pc + 1) ls (.int (a * b) :: st) μ f) : zJ g y d mc ms w o k n pc ls (.int b :: .int a :: st) μ f := zj_s (fun _ _ _ _ _ _ _ _ _ _ _ _ hC _ k => lv_imul hC.1 hC.2.1 hd k) kk
theorem zj_iand {a b : Int32} (hd : decode y.2.1 pc = .ok (.iand, 1)) (kk : zJ g y d mc ms w o k n (pc + 1) ls (.int (a &&& b) :: st) μ f) : zJ g y d mc ms w o k n pc ls (.int b :: .int a :: st) μ f := zj_s (fun _ _ _ _ _ _ _ _ _ _ _ _ hC _ k => lv_iand hC.1 hC.2.1 hd k) kk
theorem zj_ior {a b : Int32} (hd : decode y.2.1 pc = .ok (.ior, 1)) (kk : zJ g y d mc ms w o k n (pc + 1) ls (.int (a ||| b) :: st) μ f) : zJ g y d mc ms w o k n pc ls (.int b :: .int a :: st) μ f := zj_s (fun _ _ _ _ _ _ _ _ _ _ _ _ hC _ k => lv_ior hC.1 hC.2.1 hd k) kk
theorem zj_ixor {a b : Int32} (hd : decode y.2.1 pc = .ok (.ixor, 1)) (kk : zJ g y d mc ms w o k n (pc + 1) ls (.int (a ^^^ b) :: st) μ f) : zJ g y d mc ms w o k n pc ls (.int b :: .int a :: st) μ f := zj_s (fun _ _ _ _ _ _ _ _ _ _ _ _ hC _ k => lv_ixor hC.1 hC.2.1 hd k) kk
theorem zj_ladd {a b : Int64} (hd : decode y.2.1 pc = .ok (.ladd, 1)) (kk : zJ g y d mc ms w o k n (pc + 1) ls (.long (a + b) :: st) μ f) : zJ g y d mc ms w o k n pc ls (.long b :: .long a :: st) μ f := zj_s (fun _ _ _ _ _ _ _ _ _ _ _ _ hC _ k => lv_ladd hC.1 hC.2.1 hd k) kk
theorem zj_lsub {a b : Int64} (hd : decode y.2.1 pc = .ok (.lsub, 1)) (kk : zJ g y d mc ms w o k n (pc + 1) ls (.long (a - b) :: st) μ f) : zJ g y d mc ms w o k n pc ls (.long b :: .long a :: st) μ f := zj_s (fun _ _ _ _ _ _ _ _ _ _ _ _ hC _ k => lv_lsub hC.1 hC.2.1 hd k) kk
theorem zj_lmul {a b : Int64} (hd : decode y.2.1 pc = .ok (.lmul, 1)) (kk : zJ g y d mc ms w o k n (pc + 1) ls (.long (a * b) :: st) μ f) : zJ g y d mc ms w o k n pc ls (.long b :: .long a :: st) μ f := zj_s (fun _ _ _ _ _ _ _ _ _ _ _ _ hC _ k => lv_lmul hC.1 hC.2.1 hd k) kk
theorem zj_land {a b : Int64} (hd : decode y.2.1 pc = .ok (.land, 1)) (kk : zJ g y d mc ms w o k n (pc + 1) ls (.long (a &&& b) :: st) μ f) : zJ g y d mc ms w o k n pc ls (.long b :: .long a :: st) μ f := zj_s (fun _ _ _ _ _ _ _ _ _ _ _ _ hC _ k => lv_land hC.1 hC.2.1 hd k) kk
theorem zj_lor {a b : Int64} (hd : decode y.2.1 pc = .ok (.lor, 1)) (kk : zJ g y d mc ms w o k n (pc + 1) ls (.long (a ||| b) :: st) μ f) : zJ g y d mc ms w o k n pc ls (.long b :: .long a :: st) μ f := zj_s (fun _ _ _ _ _ _ _ _ _ _ _ _ hC _ k => lv_lor hC.1 hC.2.1 hd k) kk
theorem zj_lxor {a b : Int64} (hd : decode y.2.1 pc = .ok (.lxor, 1)) (kk : zJ g y d mc ms w o k n (pc + 1) ls (.long (a ^^^ b) :: st) μ f) : zJ g y d mc ms w o k n pc ls (.long b :: .long a :: st) μ f := zj_s (fun _ _ _ _ _ _ _ _ _ _ _ _ hC _ k => lv_lxor hC.1 hC.2.1 hd k) kk
theorem zj_idiv {a b : Int32} (hd : decode y.2.1 pc = .ok (.idiv, 1)) (hne : ¬ b = 0) (kk : zJ g y d mc ms w o k n (pc + 1) ls (.int (a / b) :: st) μ f) : zJ g y d mc ms w o k n pc ls (.int b :: .int a :: st) μ f := zj_s (fun _ _ _ _ _ _ _ _ _ _ _ _ hC _ k => lv_idiv hC.1 hC.2.1 hd hne k) kk
theorem zj_irem {a b : Int32} (hd : decode y.2.1 pc = .ok (.irem, 1)) (hne : ¬ b = 0) (kk : zJ g y d mc ms w o k n (pc + 1) ls (.int (a - a / b * b) :: st) μ f) : zJ g y d mc ms w o k n pc ls (.int b :: .int a :: st) μ f := zj_s (fun _ _ _ _ _ _ _ _ _ _ _ _ hC _ k => lv_irem hC.1 hC.2.1 hd hne k) kk
theorem zj_ishl {a b : Int32} (hd : decode y.2.1 pc = .ok (.ishl, 1)) (kk : zJ g y d mc ms w o k n (pc + 1) ls (.int (a <<< (b &&& 31)) :: st) μ f) : zJ g y d mc ms w o k n pc ls (.int b :: .int a :: st) μ f := zj_s (fun _ _ _ _ _ _ _ _ _ _ _ _ hC _ k => lv_ishl hC.1 hC.2.1 hd k) kk
theorem zj_ishr {a b : Int32} (hd : decode y.2.1 pc = .ok (.ishr, 1)) (kk : zJ g y d mc ms w o k n (pc + 1) ls (.int (a >>> (b &&& 31)) :: st) μ f) : zJ g y d mc ms w o k n pc ls (.int b :: .int a :: st) μ f := zj_s (fun _ _ _ _ _ _ _ _ _ _ _ _ hC _ k => lv_ishr hC.1 hC.2.1 hd k) kk
theorem zj_iushr {a b : Int32} (hd : decode y.2.1 pc = .ok (.iushr, 1)) (kk : zJ g y d mc ms w o k n (pc + 1) ls (.int (a.toUInt32 >>> (b.toUInt32 &&& Int32.toUInt32 31)).toInt32 :: st) μ f) : zJ g y d mc ms w o k n pc ls (.int b :: .int a :: st) μ f := zj_s (fun _ _ _ _ _ _ _ _ _ _ _ _ hC _ k => lv_iushr hC.1 hC.2.1 hd rfl k) kk
theorem zj_ineg {a : Int32} (hd : decode y.2.1 pc = .ok (.ineg, 1)) (kk : zJ g y d mc ms w o k n (pc + 1) ls (.int (-a) :: st) μ f) : zJ g y d mc ms w o k n pc ls (.int a :: st) μ f := zj_s (fun _ _ _ _ _ _ _ _ _ _ _ _ hC _ k => lv_ineg hC.1 hC.2.1 hd k) kk
theorem zj_idivQ {a b : Int32} (hd : decode y.2.1 pc = .ok (.idiv, 1)) (kk : zJ g y d mc ms w o k n (pc + 1) ls (.int (a / b) :: st) μ f) : zJ g y d mc ms w o k n pc ls (.int b :: .int a :: st) μ (if b = 0 then none else f) := fun hf => by
  by_cases hb : b = 0
  · rw [if_pos hb] at hf; cases hf
  · rw [if_neg hb] at hf; exact zj_s (fun _ _ _ _ _ _ _ _ _ _ _ _ hC _ k => lv_idiv hC.1 hC.2.1 hd hb k) kk hf
theorem zj_iremQ {a b : Int32} (hd : decode y.2.1 pc = .ok (.irem, 1)) (kk : zJ g y d mc ms w o k n (pc + 1) ls (.int (a - a / b * b) :: st) μ f) : zJ g y d mc ms w o k n pc ls (.int b :: .int a :: st) μ (if b = 0 then none else f) := fun hf => by
  by_cases hb : b = 0
  · rw [if_pos hb] at hf; cases hf
  · rw [if_neg hb] at hf; exact zj_s (fun _ _ _ _ _ _ _ _ _ _ _ _ hC _ k => lv_irem hC.1 hC.2.1 hd hb k) kk hf
theorem zj_ldivQ {a b : Int64} (hd : decode y.2.1 pc = .ok (.ldiv, 1)) (kk : zJ g y d mc ms w o k n (pc + 1) ls (.long (a / b) :: st) μ f) : zJ g y d mc ms w o k n pc ls (.long b :: .long a :: st) μ (if b = 0 then none else f) := fun hf => by
  by_cases hb : b = 0
  · rw [if_pos hb] at hf; cases hf
  · rw [if_neg hb] at hf; exact zj_s (fun _ _ _ _ _ _ _ _ _ _ _ _ hC _ k => lv_ldiv hC.1 hC.2.1 hd hb k) kk hf
theorem zj_lremQ {a b : Int64} (hd : decode y.2.1 pc = .ok (.lrem, 1)) (kk : zJ g y d mc ms w o k n (pc + 1) ls (.long (a - a / b * b) :: st) μ f) : zJ g y d mc ms w o k n pc ls (.long b :: .long a :: st) μ (if b = 0 then none else f) := fun hf => by
  by_cases hb : b = 0
  · rw [if_pos hb] at hf; cases hf
  · rw [if_neg hb] at hf; exact zj_s (fun _ _ _ _ _ _ _ _ _ _ _ _ hC _ k => lv_lrem hC.1 hC.2.1 hd hb k) kk hf
theorem zj_lcmp {a b : Int64} (hd : decode y.2.1 pc = .ok (.lcmp, 1)) (kk : zJ g y d mc ms w o k n (pc + 1) ls (.int (lg_cmp a b) :: st) μ f) : zJ g y d mc ms w o k n pc ls (.long b :: .long a :: st) μ f := zj_s (fun _ _ _ _ _ _ _ _ _ _ _ _ hC _ k => W.lcmp hC.1 hC.2.1 hd k) kk
theorem zj_lshl {a : Int64} {b : Int32} (hd : decode y.2.1 pc = .ok (.lshl, 1)) (kk : zJ g y d mc ms w o k n (pc + 1) ls (.long (a <<< (b.toInt64 &&& 63)) :: st) μ f) : zJ g y d mc ms w o k n pc ls (.int b :: .long a :: st) μ f := zj_s (fun _ _ _ _ _ _ _ _ _ _ _ _ hC _ k => lv_lshl hC.1 hC.2.1 hd rfl k) kk
theorem zj_lshr {a : Int64} {b : Int32} (hd : decode y.2.1 pc = .ok (.lshr, 1)) (kk : zJ g y d mc ms w o k n (pc + 1) ls (.long (a >>> (b.toInt64 &&& 63)) :: st) μ f) : zJ g y d mc ms w o k n pc ls (.int b :: .long a :: st) μ f := zj_s (fun _ _ _ _ _ _ _ _ _ _ _ _ hC _ k => lv_lshr hC.1 hC.2.1 hd rfl k) kk
theorem zj_lushr {a : Int64} {b : Int32} (hd : decode y.2.1 pc = .ok (.lushr, 1)) (kk : zJ g y d mc ms w o k n (pc + 1) ls (.long ((a.toUInt64 >>> (b.toInt64.toUInt64 &&& Int64.toUInt64 63)).toInt64) :: st) μ f) : zJ g y d mc ms w o k n pc ls (.int b :: .long a :: st) μ f := zj_s (fun _ _ _ _ _ _ _ _ _ _ _ _ hC _ k => lv_lushr hC.1 hC.2.1 hd rfl k) kk
theorem zj_i2l {a : Int32} (hd : decode y.2.1 pc = .ok (.i2l, 1)) (kk : zJ g y d mc ms w o k n (pc + 1) ls (.long (a.toInt64) :: st) μ f) : zJ g y d mc ms w o k n pc ls (.int a :: st) μ f := zj_s (fun _ _ _ _ _ _ _ _ _ _ _ _ hC _ k => lv_i2l hC.1 hC.2.1 hd rfl k) kk
theorem zj_l2i {a : Int64} (hd : decode y.2.1 pc = .ok (.l2i, 1)) (kk : zJ g y d mc ms w o k n (pc + 1) ls (.int (a.toInt32) :: st) μ f) : zJ g y d mc ms w o k n pc ls (.long a :: st) μ f := zj_s (fun _ _ _ _ _ _ _ _ _ _ _ _ hC _ k => lv_l2i hC.1 hC.2.1 hd rfl k) kk
theorem zj_i2b {a : Int32} (hd : decode y.2.1 pc = .ok (.i2b, 1)) (kk : zJ g y d mc ms w o k n (pc + 1) ls (.int (a.toInt8.toInt32) :: st) μ f) : zJ g y d mc ms w o k n pc ls (.int a :: st) μ f := zj_s (fun _ _ _ _ _ _ _ _ _ _ _ _ hC _ k => lv_i2b hC.1 hC.2.1 hd rfl k) kk
theorem zj_i2s {a : Int32} (hd : decode y.2.1 pc = .ok (.i2s, 1)) (kk : zJ g y d mc ms w o k n (pc + 1) ls (.int (a.toInt16.toInt32) :: st) μ f) : zJ g y d mc ms w o k n pc ls (.int a :: st) μ f := zj_s (fun _ _ _ _ _ _ _ _ _ _ _ _ hC _ k => lv_i2s hC.1 hC.2.1 hd rfl k) kk
theorem zj_i2c {a : Int32} (hd : decode y.2.1 pc = .ok (.i2c, 1)) (kk : zJ g y d mc ms w o k n (pc + 1) ls (.int ((a.toUInt32 % 65536).toInt32) :: st) μ f) : zJ g y d mc ms w o k n pc ls (.int a :: st) μ f := zj_s (fun _ _ _ _ _ _ _ _ _ _ _ _ hC _ k => lv_i2c hC.1 hC.2.1 hd rfl k) kk
theorem zj_dup {v : Value} (hd : decode y.2.1 pc = .ok (.dup, 1)) (hv : v.category = 1) (kk : zJ g y d mc ms w o k n (pc + 1) ls (v :: v :: st) μ f) : zJ g y d mc ms w o k n pc ls (v :: st) μ f := zj_s (fun _ _ _ _ _ _ _ _ _ _ _ _ hC _ k => lv_dup hC.1 hC.2.1 hd hv k) kk
theorem zj_pop {v : Value} (hd : decode y.2.1 pc = .ok (.pop, 1)) (hv : v.category = 1) (kk : zJ g y d mc ms w o k n (pc + 1) ls st μ f) : zJ g y d mc ms w o k n pc ls (v :: st) μ f := zj_s (fun _ _ _ _ _ _ _ _ _ _ _ _ hC _ k => lv_pop hC.1 hC.2.1 hd hv k) kk
theorem zj_dup2 {u v : Value} (hd : decode y.2.1 pc = .ok (.dup2, 1)) (hu : u.category = 1) (hv : v.category = 1) (kk : zJ g y d mc ms w o k n (pc + 1) ls (u :: v :: u :: v :: st) μ f) : zJ g y d mc ms w o k n pc ls (u :: v :: st) μ f := zj_s (fun _ _ _ _ _ _ _ _ _ _ _ _ hC _ k => lv_dup2_11 hC.1 hC.2.1 hd hu hv k) kk
theorem zr_cat (g : zG) (r : Option Nat) : (zr g r).category = 1 := by cases r <;> rfl
theorem zj_goto {off : Int} (tgt : Nat) (hd : decode y.2.1 pc = .ok (.goto off, 3)) (ht : (pc : Int) + off = (tgt : Int)) (kk : zJ g y d mc ms w o k n tgt ls st μ f) : zJ g y d mc ms w o k n pc ls st μ f := zj_s (fun _ _ _ _ _ _ _ _ _ _ _ _ hC _ k => lv_goto hC.1 hC.2.1 hd ht k) kk
theorem zj_if_eq {a : Int32} {off : Int} (tgt : Nat) (hd : decode y.2.1 pc = .ok (.ifCond .eq off, 3)) (ht : (pc : Int) + off = (tgt : Int)) (kt : a = 0 → zJ g y d mc ms w o k n tgt ls st μ f1) (kf : ¬ (a = 0) → zJ g y d mc ms w o k n (pc + 3) ls st μ f2) : zJ g y d mc ms w o k n pc ls (.int a :: st) μ (if a = 0 then f1 else f2) := by
  intro hf p e s m args below meth c H locs A hC hR hS hl hk
  refine lv_if_eq hC.1 hC.2.1 hd ht (fun h => ?_) (fun h => ?_)
  · rw [if_pos h] at hf; exact kt h hf p e s m args below meth c H locs A hC hR hS hl hk
  · rw [if_neg h] at hf; exact kf h hf p e s m args below meth c H locs A hC hR hS hl hk
theorem zj_if_eq_t {a : Int32} {off : Int} (tgt : Nat) (hd : decode y.2.1 pc = .ok (.ifCond .eq off, 3)) (ht : (pc : Int) + off = (tgt : Int)) (hc : a = 0) (kk : zJ g y d mc ms w o k n tgt ls st μ f) : zJ g y d mc ms w o k n pc ls (.int a :: st) μ f := by
  intro hf p e s m args below meth c H locs A hC hR hS hl hk
  exact lv_if_eq hC.1 hC.2.1 hd ht (fun h => kk hf p e s m args below meth c H locs A hC hR hS hl hk) (fun h => absurd hc h)
theorem zj_if_eq_f {a : Int32} {off : Int} (tgt : Nat) (hd : decode y.2.1 pc = .ok (.ifCond .eq off, 3)) (ht : (pc : Int) + off = (tgt : Int)) (hc : ¬ (a = 0)) (kk : zJ g y d mc ms w o k n (pc + 3) ls st μ f) : zJ g y d mc ms w o k n pc ls (.int a :: st) μ f := by
  intro hf p e s m args below meth c H locs A hC hR hS hl hk
  exact lv_if_eq hC.1 hC.2.1 hd ht (fun h => absurd h hc) (fun h => kk hf p e s m args below meth c H locs A hC hR hS hl hk)
theorem zj_if_ne {a : Int32} {off : Int} (tgt : Nat) (hd : decode y.2.1 pc = .ok (.ifCond .ne off, 3)) (ht : (pc : Int) + off = (tgt : Int)) (kt : ¬ (a = 0) → zJ g y d mc ms w o k n tgt ls st μ f1) (kf : a = 0 → zJ g y d mc ms w o k n (pc + 3) ls st μ f2) : zJ g y d mc ms w o k n pc ls (.int a :: st) μ (if a = 0 then f2 else f1) := by
  intro hf p e s m args below meth c H locs A hC hR hS hl hk
  refine lv_if_ne hC.1 hC.2.1 hd ht (fun h => ?_) (fun h => ?_)
  · rw [if_neg h] at hf; exact kt h hf p e s m args below meth c H locs A hC hR hS hl hk
  · rw [if_pos h] at hf; exact kf h hf p e s m args below meth c H locs A hC hR hS hl hk
theorem zj_if_ne_t {a : Int32} {off : Int} (tgt : Nat) (hd : decode y.2.1 pc = .ok (.ifCond .ne off, 3)) (ht : (pc : Int) + off = (tgt : Int)) (hc : ¬ (a = 0)) (kk : zJ g y d mc ms w o k n tgt ls st μ f) : zJ g y d mc ms w o k n pc ls (.int a :: st) μ f := by
  intro hf p e s m args below meth c H locs A hC hR hS hl hk
  exact lv_if_ne hC.1 hC.2.1 hd ht (fun h => kk hf p e s m args below meth c H locs A hC hR hS hl hk) (fun h => absurd h hc)
theorem zj_if_ne_f {a : Int32} {off : Int} (tgt : Nat) (hd : decode y.2.1 pc = .ok (.ifCond .ne off, 3)) (ht : (pc : Int) + off = (tgt : Int)) (hc : a = 0) (kk : zJ g y d mc ms w o k n (pc + 3) ls st μ f) : zJ g y d mc ms w o k n pc ls (.int a :: st) μ f := by
  intro hf p e s m args below meth c H locs A hC hR hS hl hk
  exact lv_if_ne hC.1 hC.2.1 hd ht (fun h => absurd hc h) (fun h => kk hf p e s m args below meth c H locs A hC hR hS hl hk)
theorem zj_if_lt {a : Int32} {off : Int} (tgt : Nat) (hd : decode y.2.1 pc = .ok (.ifCond .lt off, 3)) (ht : (pc : Int) + off = (tgt : Int)) (kt : a < 0 → zJ g y d mc ms w o k n tgt ls st μ f1) (kf : ¬ (a < 0) → zJ g y d mc ms w o k n (pc + 3) ls st μ f2) : zJ g y d mc ms w o k n pc ls (.int a :: st) μ (if a < 0 then f1 else f2) := by
  intro hf p e s m args below meth c H locs A hC hR hS hl hk
  refine lv_if_lt hC.1 hC.2.1 hd ht (fun h => ?_) (fun h => ?_)
  · rw [if_pos h] at hf; exact kt h hf p e s m args below meth c H locs A hC hR hS hl hk
  · rw [if_neg h] at hf; exact kf h hf p e s m args below meth c H locs A hC hR hS hl hk
theorem zj_if_lt_t {a : Int32} {off : Int} (tgt : Nat) (hd : decode y.2.1 pc = .ok (.ifCond .lt off, 3)) (ht : (pc : Int) + off = (tgt : Int)) (hc : a < 0) (kk : zJ g y d mc ms w o k n tgt ls st μ f) : zJ g y d mc ms w o k n pc ls (.int a :: st) μ f := by
  intro hf p e s m args below meth c H locs A hC hR hS hl hk
  exact lv_if_lt hC.1 hC.2.1 hd ht (fun h => kk hf p e s m args below meth c H locs A hC hR hS hl hk) (fun h => absurd hc h)
theorem zj_if_lt_f {a : Int32} {off : Int} (tgt : Nat) (hd : decode y.2.1 pc = .ok (.ifCond .lt off, 3)) (ht : (pc : Int) + off = (tgt : Int)) (hc : ¬ (a < 0)) (kk : zJ g y d mc ms w o k n (pc + 3) ls st μ f) : zJ g y d mc ms w o k n pc ls (.int a :: st) μ f := by
  intro hf p e s m args below meth c H locs A hC hR hS hl hk
  exact lv_if_lt hC.1 hC.2.1 hd ht (fun h => absurd h hc) (fun h => kk hf p e s m args below meth c H locs A hC hR hS hl hk)
theorem zj_if_ge {a : Int32} {off : Int} (tgt : Nat) (hd : decode y.2.1 pc = .ok (.ifCond .ge off, 3)) (ht : (pc : Int) + off = (tgt : Int)) (kt : 0 ≤ a → zJ g y d mc ms w o k n tgt ls st μ f1) (kf : ¬ (0 ≤ a) → zJ g y d mc ms w o k n (pc + 3) ls st μ f2) : zJ g y d mc ms w o k n pc ls (.int a :: st) μ (if 0 ≤ a then f1 else f2) := by
  intro hf p e s m args below meth c H locs A hC hR hS hl hk
  refine lv_if_ge hC.1 hC.2.1 hd ht (fun h => ?_) (fun h => ?_)
  · rw [if_pos h] at hf; exact kt h hf p e s m args below meth c H locs A hC hR hS hl hk
  · rw [if_neg h] at hf; exact kf h hf p e s m args below meth c H locs A hC hR hS hl hk
theorem zj_if_ge_t {a : Int32} {off : Int} (tgt : Nat) (hd : decode y.2.1 pc = .ok (.ifCond .ge off, 3)) (ht : (pc : Int) + off = (tgt : Int)) (hc : 0 ≤ a) (kk : zJ g y d mc ms w o k n tgt ls st μ f) : zJ g y d mc ms w o k n pc ls (.int a :: st) μ f := by
  intro hf p e s m args below meth c H locs A hC hR hS hl hk
  exact lv_if_ge hC.1 hC.2.1 hd ht (fun h => kk hf p e s m args below meth c H locs A hC hR hS hl hk) (fun h => absurd hc h)
theorem zj_if_ge_f {a : Int32} {off : Int} (tgt : Nat) (hd : decode y.2.1 pc = .ok (.ifCond .ge off, 3)) (ht : (pc : Int) + off = (tgt : Int)) (hc : ¬ (0 ≤ a)) (kk : zJ g y d mc ms w o k n (pc + 3) ls st μ f) : zJ g y d mc ms w o k n pc ls (.int a :: st) μ f := by
  intro hf p e s m args below meth c H locs A hC hR hS hl hk
  exact lv_if_ge hC.1 hC.2.1 hd ht (fun h => absurd h hc) (fun h => kk hf p e s m args below meth c H locs A hC hR hS hl hk)
theorem zj_if_gt {a : Int32} {off : Int} (tgt : Nat) (hd : decode y.2.1 pc = .ok (.ifCond .gt off, 3)) (ht : (pc : Int) + off = (tgt : Int)) (kt : 0 < a → zJ g y d mc ms w o k n tgt ls st μ f1) (kf : ¬ (0 < a) → zJ g y d mc ms w o k n (pc + 3) ls st μ f2) : zJ g y d mc ms w o k n pc ls (.int a :: st) μ (if 0 < a then f1 else f2) := by
  intro hf p e s m args below meth c H locs A hC hR hS hl hk
  refine lv_if_gt hC.1 hC.2.1 hd ht (fun h => ?_) (fun h => ?_)
  · rw [if_pos h] at hf; exact kt h hf p e s m args below meth c H locs A hC hR hS hl hk
  · rw [if_neg h] at hf; exact kf h hf p e s m args below meth c H locs A hC hR hS hl hk
theorem zj_if_gt_t {a : Int32} {off : Int} (tgt : Nat) (hd : decode y.2.1 pc = .ok (.ifCond .gt off, 3)) (ht : (pc : Int) + off = (tgt : Int)) (hc : 0 < a) (kk : zJ g y d mc ms w o k n tgt ls st μ f) : zJ g y d mc ms w o k n pc ls (.int a :: st) μ f := by
  intro hf p e s m args below meth c H locs A hC hR hS hl hk
  exact lv_if_gt hC.1 hC.2.1 hd ht (fun h => kk hf p e s m args below meth c H locs A hC hR hS hl hk) (fun h => absurd hc h)
theorem zj_if_gt_f {a : Int32} {off : Int} (tgt : Nat) (hd : decode y.2.1 pc = .ok (.ifCond .gt off, 3)) (ht : (pc : Int) + off = (tgt : Int)) (hc : ¬ (0 < a)) (kk : zJ g y d mc ms w o k n (pc + 3) ls st μ f) : zJ g y d mc ms w o k n pc ls (.int a :: st) μ f := by
  intro hf p e s m args below meth c H locs A hC hR hS hl hk
  exact lv_if_gt hC.1 hC.2.1 hd ht (fun h => absurd h hc) (fun h => kk hf p e s m args below meth c H locs A hC hR hS hl hk)
theorem zj_if_le {a : Int32} {off : Int} (tgt : Nat) (hd : decode y.2.1 pc = .ok (.ifCond .le off, 3)) (ht : (pc : Int) + off = (tgt : Int)) (kt : a ≤ 0 → zJ g y d mc ms w o k n tgt ls st μ f1) (kf : ¬ (a ≤ 0) → zJ g y d mc ms w o k n (pc + 3) ls st μ f2) : zJ g y d mc ms w o k n pc ls (.int a :: st) μ (if a ≤ 0 then f1 else f2) := by
  intro hf p e s m args below meth c H locs A hC hR hS hl hk
  refine lv_if_le hC.1 hC.2.1 hd ht (fun h => ?_) (fun h => ?_)
  · rw [if_pos h] at hf; exact kt h hf p e s m args below meth c H locs A hC hR hS hl hk
  · rw [if_neg h] at hf; exact kf h hf p e s m args below meth c H locs A hC hR hS hl hk
theorem zj_if_le_t {a : Int32} {off : Int} (tgt : Nat) (hd : decode y.2.1 pc = .ok (.ifCond .le off, 3)) (ht : (pc : Int) + off = (tgt : Int)) (hc : a ≤ 0) (kk : zJ g y d mc ms w o k n tgt ls st μ f) : zJ g y d mc ms w o k n pc ls (.int a :: st) μ f := by
  intro hf p e s m args below meth c H locs A hC hR hS hl hk
  exact lv_if_le hC.1 hC.2.1 hd ht (fun h => kk hf p e s m args below meth c H locs A hC hR hS hl hk) (fun h => absurd hc h)
theorem zj_if_le_f {a : Int32} {off : Int} (tgt : Nat) (hd : decode y.2.1 pc = .ok (.ifCond .le off, 3)) (ht : (pc : Int) + off = (tgt : Int)) (hc : ¬ (a ≤ 0)) (kk : zJ g y d mc ms w o k n (pc + 3) ls st μ f) : zJ g y d mc ms w o k n pc ls (.int a :: st) μ f := by
  intro hf p e s m args below meth c H locs A hC hR hS hl hk
  exact lv_if_le hC.1 hC.2.1 hd ht (fun h => absurd h hc) (fun h => kk hf p e s m args below meth c H locs A hC hR hS hl hk)
theorem zj_icmp_eq {a b : Int32} {off : Int} (tgt : Nat) (hd : decode y.2.1 pc = .ok (.if_icmp .eq off, 3)) (ht : (pc : Int) + off = (tgt : Int)) (kt : a = b → zJ g y d mc ms w o k n tgt ls st μ f1) (kf : ¬ (a = b) → zJ g y d mc ms w o k n (pc + 3) ls st μ f2) : zJ g y d mc ms w o k n pc ls (.int b :: .int a :: st) μ (if a = b then f1 else f2) := by
  intro hf p e s m args below meth c H locs A hC hR hS hl hk
  refine lv_icmp_eq hC.1 hC.2.1 hd ht (fun h => ?_) (fun h => ?_)
  · rw [if_pos h] at hf; exact kt h hf p e s m args below meth c H locs A hC hR hS hl hk
  · rw [if_neg h] at hf; exact kf h hf p e s m args below meth c H locs A hC hR hS hl hk
theorem zj_icmp_eq_t {a b : Int32} {off : Int} (tgt : Nat) (hd : decode y.2.1 pc = .ok (.if_icmp .eq off, 3)) (ht : (pc : Int) + off = (tgt : Int)) (hc : a = b) (kk : zJ g y d mc ms w o k n tgt ls st μ f) : zJ g y d mc ms w o k n pc ls (.int b :: .int a :: st) μ f := by
  intro hf p e s m args below meth c H locs A hC hR hS hl hk
  exact lv_icmp_eq hC.1 hC.2.1 hd ht (fun h => kk hf p e s m args below meth c H locs A hC hR hS hl hk) (fun h => absurd hc h)
theorem zj_icmp_eq_f {a b : Int32} {off : Int} (tgt : Nat) (hd : decode y.2.1 pc = .ok (.if_icmp .eq off, 3)) (ht : (pc : Int) + off = (tgt : Int)) (hc : ¬ (a = b)) (kk : zJ g y d mc ms w o k n (pc + 3) ls st μ f) : zJ g y d mc ms w o k n pc ls (.int b :: .int a :: st) μ f := by
  intro hf p e s m args below meth c H locs A hC hR hS hl hk
  exact lv_icmp_eq hC.1 hC.2.1 hd ht (fun h => absurd h hc) (fun h => kk hf p e s m args below meth c H locs A hC hR hS hl hk)
theorem zj_icmp_ne {a b : Int32} {off : Int} (tgt : Nat) (hd : decode y.2.1 pc = .ok (.if_icmp .ne off, 3)) (ht : (pc : Int) + off = (tgt : Int)) (kt : ¬ (a = b) → zJ g y d mc ms w o k n tgt ls st μ f1) (kf : a = b → zJ g y d mc ms w o k n (pc + 3) ls st μ f2) : zJ g y d mc ms w o k n pc ls (.int b :: .int a :: st) μ (if a = b then f2 else f1) := by
  intro hf p e s m args below meth c H locs A hC hR hS hl hk
  refine lv_icmp_ne hC.1 hC.2.1 hd ht (fun h => ?_) (fun h => ?_)
  · rw [if_neg h] at hf; exact kt h hf p e s m args below meth c H locs A hC hR hS hl hk
  · rw [if_pos h] at hf; exact kf h hf p e s m args below meth c H locs A hC hR hS hl hk
theorem zj_icmp_ne_t {a b : Int32} {off : Int} (tgt : Nat) (hd : decode y.2.1 pc = .ok (.if_icmp .ne off, 3)) (ht : (pc : Int) + off = (tgt : Int)) (hc : ¬ (a = b)) (kk : zJ g y d mc ms w o k n tgt ls st μ f) : zJ g y d mc ms w o k n pc ls (.int b :: .int a :: st) μ f := by
  intro hf p e s m args below meth c H locs A hC hR hS hl hk
  exact lv_icmp_ne hC.1 hC.2.1 hd ht (fun h => kk hf p e s m args below meth c H locs A hC hR hS hl hk) (fun h => absurd h hc)
theorem zj_icmp_ne_f {a b : Int32} {off : Int} (tgt : Nat) (hd : decode y.2.1 pc = .ok (.if_icmp .ne off, 3)) (ht : (pc : Int) + off = (tgt : Int)) (hc : a = b) (kk : zJ g y d mc ms w o k n (pc + 3) ls st μ f) : zJ g y d mc ms w o k n pc ls (.int b :: .int a :: st) μ f := by
  intro hf p e s m args below meth c H locs A hC hR hS hl hk
  exact lv_icmp_ne hC.1 hC.2.1 hd ht (fun h => absurd hc h) (fun h => kk hf p e s m args below meth c H locs A hC hR hS hl hk)
theorem zj_icmp_lt {a b : Int32} {off : Int} (tgt : Nat) (hd : decode y.2.1 pc = .ok (.if_icmp .lt off, 3)) (ht : (pc : Int) + off = (tgt : Int)) (kt : a < b → zJ g y d mc ms w o k n tgt ls st μ f1) (kf : ¬ (a < b) → zJ g y d mc ms w o k n (pc + 3) ls st μ f2) : zJ g y d mc ms w o k n pc ls (.int b :: .int a :: st) μ (if a < b then f1 else f2) := by
  intro hf p e s m args below meth c H locs A hC hR hS hl hk
  refine lv_icmp_lt hC.1 hC.2.1 hd ht (fun h => ?_) (fun h => ?_)
  · rw [if_pos h] at hf; exact kt h hf p e s m args below meth c H locs A hC hR hS hl hk
  · rw [if_neg h] at hf; exact kf h hf p e s m args below meth c H locs A hC hR hS hl hk
theorem zj_icmp_lt_t {a b : Int32} {off : Int} (tgt : Nat) (hd : decode y.2.1 pc = .ok (.if_icmp .lt off, 3)) (ht : (pc : Int) + off = (tgt : Int)) (hc : a < b) (kk : zJ g y d mc ms w o k n tgt ls st μ f) : zJ g y d mc ms w o k n pc ls (.int b :: .int a :: st) μ f := by
  intro hf p e s m args below meth c H locs A hC hR hS hl hk
  exact lv_icmp_lt hC.1 hC.2.1 hd ht (fun h => kk hf p e s m args below meth c H locs A hC hR hS hl hk) (fun h => absurd hc h)
theorem zj_icmp_lt_f {a b : Int32} {off : Int} (tgt : Nat) (hd : decode y.2.1 pc = .ok (.if_icmp .lt off, 3)) (ht : (pc : Int) + off = (tgt : Int)) (hc : ¬ (a < b)) (kk : zJ g y d mc ms w o k n (pc + 3) ls st μ f) : zJ g y d mc ms w o k n pc ls (.int b :: .int a :: st) μ f := by
  intro hf p e s m args below meth c H locs A hC hR hS hl hk
  exact lv_icmp_lt hC.1 hC.2.1 hd ht (fun h => absurd h hc) (fun h => kk hf p e s m args below meth c H locs A hC hR hS hl hk)
theorem zj_icmp_ge {a b : Int32} {off : Int} (tgt : Nat) (hd : decode y.2.1 pc = .ok (.if_icmp .ge off, 3)) (ht : (pc : Int) + off = (tgt : Int)) (kt : b ≤ a → zJ g y d mc ms w o k n tgt ls st μ f1) (kf : ¬ (b ≤ a) → zJ g y d mc ms w o k n (pc + 3) ls st μ f2) : zJ g y d mc ms w o k n pc ls (.int b :: .int a :: st) μ (if b ≤ a then f1 else f2) := by
  intro hf p e s m args below meth c H locs A hC hR hS hl hk
  refine lv_icmp_ge hC.1 hC.2.1 hd ht (fun h => ?_) (fun h => ?_)
  · rw [if_pos h] at hf; exact kt h hf p e s m args below meth c H locs A hC hR hS hl hk
  · rw [if_neg h] at hf; exact kf h hf p e s m args below meth c H locs A hC hR hS hl hk
theorem zj_icmp_ge_t {a b : Int32} {off : Int} (tgt : Nat) (hd : decode y.2.1 pc = .ok (.if_icmp .ge off, 3)) (ht : (pc : Int) + off = (tgt : Int)) (hc : b ≤ a) (kk : zJ g y d mc ms w o k n tgt ls st μ f) : zJ g y d mc ms w o k n pc ls (.int b :: .int a :: st) μ f := by
  intro hf p e s m args below meth c H locs A hC hR hS hl hk
  exact lv_icmp_ge hC.1 hC.2.1 hd ht (fun h => kk hf p e s m args below meth c H locs A hC hR hS hl hk) (fun h => absurd hc h)
theorem zj_icmp_ge_f {a b : Int32} {off : Int} (tgt : Nat) (hd : decode y.2.1 pc = .ok (.if_icmp .ge off, 3)) (ht : (pc : Int) + off = (tgt : Int)) (hc : ¬ (b ≤ a)) (kk : zJ g y d mc ms w o k n (pc + 3) ls st μ f) : zJ g y d mc ms w o k n pc ls (.int b :: .int a :: st) μ f := by
  intro hf p e s m args below meth c H locs A hC hR hS hl hk
  exact lv_icmp_ge hC.1 hC.2.1 hd ht (fun h => absurd h hc) (fun h => kk hf p e s m args below meth c H locs A hC hR hS hl hk)
theorem zj_icmp_gt {a b : Int32} {off : Int} (tgt : Nat) (hd : decode y.2.1 pc = .ok (.if_icmp .gt off, 3)) (ht : (pc : Int) + off = (tgt : Int)) (kt : b < a → zJ g y d mc ms w o k n tgt ls st μ f1) (kf : ¬ (b < a) → zJ g y d mc ms w o k n (pc + 3) ls st μ f2) : zJ g y d mc ms w o k n pc ls (.int b :: .int a :: st) μ (if b < a then f1 else f2) := by
  intro hf p e s m args below meth c H locs A hC hR hS hl hk
  refine lv_icmp_gt hC.1 hC.2.1 hd ht (fun h => ?_) (fun h => ?_)
  · rw [if_pos h] at hf; exact kt h hf p e s m args below meth c H locs A hC hR hS hl hk
  · rw [if_neg h] at hf; exact kf h hf p e s m args below meth c H locs A hC hR hS hl hk
theorem zj_icmp_gt_t {a b : Int32} {off : Int} (tgt : Nat) (hd : decode y.2.1 pc = .ok (.if_icmp .gt off, 3)) (ht : (pc : Int) + off = (tgt : Int)) (hc : b < a) (kk : zJ g y d mc ms w o k n tgt ls st μ f) : zJ g y d mc ms w o k n pc ls (.int b :: .int a :: st) μ f := by
  intro hf p e s m args below meth c H locs A hC hR hS hl hk
  exact lv_icmp_gt hC.1 hC.2.1 hd ht (fun h => kk hf p e s m args below meth c H locs A hC hR hS hl hk) (fun h => absurd hc h)
theorem zj_icmp_gt_f {a b : Int32} {off : Int} (tgt : Nat) (hd : decode y.2.1 pc = .ok (.if_icmp .gt off, 3)) (ht : (pc : Int) + off = (tgt : Int)) (hc : ¬ (b < a)) (kk : zJ g y d mc ms w o k n (pc + 3) ls st μ f) : zJ g y d mc ms w o k n pc ls (.int b :: .int a :: st) μ f := by
  intro hf p e s m args below meth c H locs A hC hR hS hl hk
  exact lv_icmp_gt hC.1 hC.2.1 hd ht (fun h => absurd h hc) (fun h => kk hf p e s m args below meth c H locs A hC hR hS hl hk)
theorem zj_icmp_le {a b : Int32} {off : Int} (tgt : Nat) (hd : decode y.2.1 pc = .ok (.if_icmp .le off, 3)) (ht : (pc : Int) + off = (tgt : Int)) (kt : a ≤ b → zJ g y d mc ms w o k n tgt ls st μ f1) (kf : ¬ (a ≤ b) → zJ g y d mc ms w o k n (pc + 3) ls st μ f2) : zJ g y d mc ms w o k n pc ls (.int b :: .int a :: st) μ (if a ≤ b then f1 else f2) := by
  intro hf p e s m args below meth c H locs A hC hR hS hl hk
  refine lv_icmp_le hC.1 hC.2.1 hd ht (fun h => ?_) (fun h => ?_)
  · rw [if_pos h] at hf; exact kt h hf p e s m args below meth c H locs A hC hR hS hl hk
  · rw [if_neg h] at hf; exact kf h hf p e s m args below meth c H locs A hC hR hS hl hk
theorem zj_icmp_le_t {a b : Int32} {off : Int} (tgt : Nat) (hd : decode y.2.1 pc = .ok (.if_icmp .le off, 3)) (ht : (pc : Int) + off = (tgt : Int)) (hc : a ≤ b) (kk : zJ g y d mc ms w o k n tgt ls st μ f) : zJ g y d mc ms w o k n pc ls (.int b :: .int a :: st) μ f := by
  intro hf p e s m args below meth c H locs A hC hR hS hl hk
  exact lv_icmp_le hC.1 hC.2.1 hd ht (fun h => kk hf p e s m args below meth c H locs A hC hR hS hl hk) (fun h => absurd hc h)
theorem zj_icmp_le_f {a b : Int32} {off : Int} (tgt : Nat) (hd : decode y.2.1 pc = .ok (.if_icmp .le off, 3)) (ht : (pc : Int) + off = (tgt : Int)) (hc : ¬ (a ≤ b)) (kk : zJ g y d mc ms w o k n (pc + 3) ls st μ f) : zJ g y d mc ms w o k n pc ls (.int b :: .int a :: st) μ f := by
  intro hf p e s m args below meth c H locs A hC hR hS hl hk
  exact lv_icmp_le hC.1 hC.2.1 hd ht (fun h => absurd h hc) (fun h => kk hf p e s m args below meth c H locs A hC hR hS hl hk)
theorem zj_tsw {a : Int32} {dflt lo hi : Int} {offs : Array Int} {len : Nat} {off : Int} (c : Int32) (z : Int) (tgt : Nat) (hd : decode y.2.1 pc = .ok (.tableswitch dflt lo hi offs, len)) (hz : c.toInt = z) (h1 : ¬ z < lo) (h2 : ¬ hi < z) (ho : offs[(z - lo).toNat]? = some off) (ht : (pc : Int) + off = (tgt : Int)) (kt : a = c → zJ g y d mc ms w o k n tgt ls st μ f1) (kf : ¬ a = c → zJ g y d mc ms w o k n pc ls (.int a :: st) μ f2) : zJ g y d mc ms w o k n pc ls (.int a :: st) μ (if a = c then f1 else f2) := by
  intro hf p e s m args below meth c' H locs A hC hR hS hl hk
  by_cases h : a = c
  · rw [if_pos h] at hf
    subst h
    exact lv_tableIn hC.1 hC.2.1 hd (by rw [hz]; exact h1) (by rw [hz]; exact h2) (by rw [hz]; exact ho) ht (kt rfl hf p e s m args below meth c' H locs A hC hR hS hl hk)
  · rw [if_neg h] at hf
    exact kf h hf p e s m args below meth c' H locs A hC hR hS hl hk
theorem zj_tswD {a : Int32} {dflt lo hi : Int} {offs : Array Int} {len : Nat} (tgt : Nat) (hd : decode y.2.1 pc = .ok (.tableswitch dflt lo hi offs, len)) (h : a.toInt < lo ∨ hi < a.toInt) (ht : (pc : Int) + dflt = (tgt : Int)) (kk : zJ g y d mc ms w o k n tgt ls st μ f) : zJ g y d mc ms w o k n pc ls (.int a :: st) μ f := zj_s (fun _ _ _ _ _ _ _ _ _ _ _ _ hC _ k => lv_tableOut hC.1 hC.2.1 hd h ht k) kk
theorem zj_lsw {a : Int32} {dflt : Int} {ps : Array (Int × Int)} {len : Nat} {off : Int} (tgt : Nat) (hd : decode y.2.1 pc = .ok (.lookupswitch dflt ps, len)) (hp : (ps.toList.zip (ps.toList.drop 1)).all (fun (a, next) => a.1 < next.1) = true) (ho : Op.lookupswitch.offset ps.toList dflt a.toInt = off) (ht : (pc : Int) + off = (tgt : Int)) (kk : zJ g y d mc ms w o k n tgt ls st μ f) : zJ g y d mc ms w o k n pc ls (.int a :: st) μ f := zj_s (fun _ _ _ _ _ _ _ _ _ _ _ _ hC _ k => lv_lookup hC.1 hC.2.1 hd hp ho ht k) kk
theorem zj_ite {c : Prop} {_ : Decidable c} (kt : c → zJ g y d mc ms w o k n pc ls st μ f1) (kf : ¬ c → zJ g y d mc ms w o k n pc ls st μ f2) : zJ g y d mc ms w o k n pc ls st μ (if c then f1 else f2) := by
  intro hf
  by_cases h : c
  · rw [if_pos h] at hf; exact kt h hf
  · rw [if_neg h] at hf; exact kf h hf
theorem zj_iret {v : Int32} {t : τ} (hw : w t = (some (.int v), μ)) (hr : y.2.2.2 = some .int) (hkm : k = mc) (hn : n = ms) (hd : decode y.2.1 pc = .ok (.ireturn, 1)) : zJ g y d mc ms w o k n pc ls [.int v] μ (some t) := by
  intro hf p e s m args below meth c H locs A hC hR hS hl hk
  cases hf; subst hkm; subst hn
  have hlocks : meth.locks = false := hC.2.2.2.2.2.2.2.1
  rw [hw]
  exact W.iret hC.1 hC.2.1 (hC.2.2.1.trans hr) (fun t ht _ => ⟨rfl, by rw [ht]; exact hR, hS.F ht, by rw [ht, hR.1]; exact hk⟩) hS.2.2 hd hlocks
theorem zj_lret {v : Int64} {t : τ} (hw : w t = (some (.long v), μ)) (hr : y.2.2.2 = some .long) (hkm : k = mc) (hn : n = ms) (hd : decode y.2.1 pc = .ok (.lreturn, 1)) : zJ g y d mc ms w o k n pc ls [.long v] μ (some t) := by
  intro hf p e s m args below meth c H locs A hC hR hS hl hk
  cases hf; subst hkm; subst hn
  have hlocks : meth.locks = false := hC.2.2.2.2.2.2.2.1
  rw [hw]
  exact W.lret hC.1 hC.2.1 (hC.2.2.1.trans hr) (fun t ht _ => ⟨rfl, by rw [ht]; exact hR, hS.F ht, by rw [ht, hR.1]; exact hk⟩) hS.2.2 hd hlocks
theorem zj_vret {t : τ} (hw : w t = (none, μ)) (hr : y.2.2.2 = none) (hkm : k = mc) (hn : n = ms) (hd : decode y.2.1 pc = .ok (.return_, 1)) : zJ g y d mc ms w o k n pc ls [] μ (some t) := by
  intro hf p e s m args below meth c H locs A hC hR hS hl hk
  cases hf; subst hkm; subst hn
  have hlocks : meth.locks = false := hC.2.2.2.2.2.2.2.1
  rw [hw]
  exact W.vret hC.1 hC.2.1 (hC.2.2.1.trans hr) (fun t ht _ => ⟨rfl, by rw [ht]; exact hR, hS.F ht, by rw [ht, hR.1]; exact hk⟩) hS.2.2 hd hlocks
theorem zj_zretL {v : Int32} {t : τ} (hv : v = 0 ∨ v = 1) (hw : w t = (some (.int v), μ)) (hr : y.2.2.2 = some .boolean) (hkm : k = mc) (hn : n = ms) (hd : decode y.2.1 pc = .ok (.ireturn, 1)) : zJ g y d mc ms w o k n pc ls [.int v] μ (some t) := by
  intro hf p e s m args below meth c H locs A hC hR hS hl hk
  cases hf; subst hkm; subst hn
  have hlocks : meth.locks = false := hC.2.2.2.2.2.2.2.1
  rw [hw]
  exact W.zret hC.1 hC.2.1 (hC.2.2.1.trans hr) (by rcases hv with h | h <;> (have h : v = _ := h) <;> rw [h] <;> decide) (fun t ht _ => ⟨rfl, by rw [ht]; exact hR, hS.F ht, by rw [ht, hR.1]; exact hk⟩) hS.2.2 hd hlocks
/-- a boolean answer -/
def zrz {τ : Type} (v : Int32) (t : τ) : Option τ := if v = 0 ∨ v = 1 then some t else none
theorem zj_zret {v : Int32} {t : τ} (hw : w t = (some (.int v), μ)) (hr : y.2.2.2 = some .boolean) (hkm : k = mc) (hn : n = ms) (hd : decode y.2.1 pc = .ok (.ireturn, 1)) : zJ g y d mc ms w o k n pc ls [.int v] μ (zrz v t) := by
  intro hf
  unfold zrz at hf
  by_cases hv : v = 0 ∨ v = 1
  · rw [if_pos hv] at hf
    exact zj_zretL hv hw hr hkm hn hd hf
  · rw [if_neg hv] at hf; cases hf
/-- a name for a value -/
def zlet {α β : Type} (e : α) (f : α → β) : β := f e
theorem zj_letI {e : Int32} {f : Int32 → Option τ} (kk : ∀ v : Int32, zJ g y d mc ms w o k n pc ls (.int v :: st) μ (f v)) : zJ g y d mc ms w o k n pc ls (.int e :: st) μ (zlet e f) := kk e
theorem zj_letJ {e : Int64} {f : Int64 → Option τ} (kk : ∀ v : Int64, zJ g y d mc ms w o k n pc ls (.long v :: st) μ (f v)) : zJ g y d mc ms w o k n pc ls (.long e :: st) μ (zlet e f) := kk e
end ZA
-- ===== loops and joins =====

def zfix1 {α : Type} {T0 : Type} (b : (T0 → Option α) → T0 → Option α) : Nat → T0 → Option α
  | 0 => fun _ => none
  | m + 1 => b (zfix1 b m)
def zjn1 {α : Type} {T0 : Type} (b : (T0 → α) → α) (k : T0 → α) : α := b k
theorem zj_fix1 {τ : Type} {g : zG} {y : zY} {d mc ms : Nat} {w : τ → Option Value × zS} {o : τ} {k n pc : Nat} {T0 : Type} {b : (T0 → Option τ) → T0 → Option τ} {N : Nat} (LS : T0 → List (Option Value)) (MU : T0 → zS) (h : ∀ rec : T0 → Option τ, (∀ x0, zJ g y d mc ms w o k n pc (LS x0) [] (MU x0) (rec x0)) → ∀ x0, zJ g y d mc ms w o k n pc (LS x0) [] (MU x0) (b rec x0)) (x0 : _) : zJ g y d mc ms w o k n pc (LS x0) [] (MU x0) (zfix1 b N x0) := by
  induction N generalizing x0 with
  | zero => intro hf; cases hf
  | succ N ih => exact h (zfix1 b N) (fun x0 => ih x0) x0
theorem zj_jn1 {τ : Type} {g : zG} {y : zY} {d mc ms : Nat} {w : τ → Option Value × zS} {o : τ} {k n pc : Nat} {T0 : Type} {pcj : Nat} {ls : List (Option Value)} {st : List Value} {μ : zS} {b : (T0 → Option τ) → Option τ} {kk : T0 → Option τ} (LS : T0 → List (Option Value)) (ST : T0 → List Value) (MU : T0 → zS) (hk : ∀ x0, zJ g y d mc ms w o k n pcj (LS x0) (ST x0) (MU x0) (kk x0)) (hb : ∀ j : T0 → Option τ, (∀ x0, zJ g y d mc ms w o k n pcj (LS x0) (ST x0) (MU x0) (j x0)) → zJ g y d mc ms w o k n pc ls st μ (b j)) : zJ g y d mc ms w o k n pc ls st μ (zjn1 b kk) := hb kk hk
def zfix2 {α : Type} {T0 : Type} {T1 : Type} (b : (T0 → T1 → Option α) → T0 → T1 → Option α) : Nat → T0 → T1 → Option α
  | 0 => fun _ _ => none
  | m + 1 => b (zfix2 b m)
def zjn2 {α : Type} {T0 : Type} {T1 : Type} (b : (T0 → T1 → α) → α) (k : T0 → T1 → α) : α := b k
theorem zj_fix2 {τ : Type} {g : zG} {y : zY} {d mc ms : Nat} {w : τ → Option Value × zS} {o : τ} {k n pc : Nat} {T0 : Type} {T1 : Type} {b : (T0 → T1 → Option τ) → T0 → T1 → Option τ} {N : Nat} (LS : T0 → T1 → List (Option Value)) (MU : T0 → T1 → zS) (h : ∀ rec : T0 → T1 → Option τ, (∀ x0 x1, zJ g y d mc ms w o k n pc (LS x0 x1) [] (MU x0 x1) (rec x0 x1)) → ∀ x0 x1, zJ g y d mc ms w o k n pc (LS x0 x1) [] (MU x0 x1) (b rec x0 x1)) (x0 : _) (x1 : _) : zJ g y d mc ms w o k n pc (LS x0 x1) [] (MU x0 x1) (zfix2 b N x0 x1) := by
  induction N generalizing x0 x1 with
  | zero => intro hf; cases hf
  | succ N ih => exact h (zfix2 b N) (fun x0 x1 => ih x0 x1) x0 x1
theorem zj_jn2 {τ : Type} {g : zG} {y : zY} {d mc ms : Nat} {w : τ → Option Value × zS} {o : τ} {k n pc : Nat} {T0 : Type} {T1 : Type} {pcj : Nat} {ls : List (Option Value)} {st : List Value} {μ : zS} {b : (T0 → T1 → Option τ) → Option τ} {kk : T0 → T1 → Option τ} (LS : T0 → T1 → List (Option Value)) (ST : T0 → T1 → List Value) (MU : T0 → T1 → zS) (hk : ∀ x0 x1, zJ g y d mc ms w o k n pcj (LS x0 x1) (ST x0 x1) (MU x0 x1) (kk x0 x1)) (hb : ∀ j : T0 → T1 → Option τ, (∀ x0 x1, zJ g y d mc ms w o k n pcj (LS x0 x1) (ST x0 x1) (MU x0 x1) (j x0 x1)) → zJ g y d mc ms w o k n pc ls st μ (b j)) : zJ g y d mc ms w o k n pc ls st μ (zjn2 b kk) := hb kk hk
def zfix3 {α : Type} {T0 : Type} {T1 : Type} {T2 : Type} (b : (T0 → T1 → T2 → Option α) → T0 → T1 → T2 → Option α) : Nat → T0 → T1 → T2 → Option α
  | 0 => fun _ _ _ => none
  | m + 1 => b (zfix3 b m)
def zjn3 {α : Type} {T0 : Type} {T1 : Type} {T2 : Type} (b : (T0 → T1 → T2 → α) → α) (k : T0 → T1 → T2 → α) : α := b k
theorem zj_fix3 {τ : Type} {g : zG} {y : zY} {d mc ms : Nat} {w : τ → Option Value × zS} {o : τ} {k n pc : Nat} {T0 : Type} {T1 : Type} {T2 : Type} {b : (T0 → T1 → T2 → Option τ) → T0 → T1 → T2 → Option τ} {N : Nat} (LS : T0 → T1 → T2 → List (Option Value)) (MU : T0 → T1 → T2 → zS) (h : ∀ rec : T0 → T1 → T2 → Option τ, (∀ x0 x1 x2, zJ g y d mc ms w o k n pc (LS x0 x1 x2) [] (MU x0 x1 x2) (rec x0 x1 x2)) → ∀ x0 x1 x2, zJ g y d mc ms w o k n pc (LS x0 x1 x2) [] (MU x0 x1 x2) (b rec x0 x1 x2)) (x0 : _) (x1 : _) (x2 : _) : zJ g y d mc ms w o k n pc (LS x0 x1 x2) [] (MU x0 x1 x2) (zfix3 b N x0 x1 x2) := by
  induction N generalizing x0 x1 x2 with
  | zero => intro hf; cases hf
  | succ N ih => exact h (zfix3 b N) (fun x0 x1 x2 => ih x0 x1 x2) x0 x1 x2
theorem zj_jn3 {τ : Type} {g : zG} {y : zY} {d mc ms : Nat} {w : τ → Option Value × zS} {o : τ} {k n pc : Nat} {T0 : Type} {T1 : Type} {T2 : Type} {pcj : Nat} {ls : List (Option Value)} {st : List Value} {μ : zS} {b : (T0 → T1 → T2 → Option τ) → Option τ} {kk : T0 → T1 → T2 → Option τ} (LS : T0 → T1 → T2 → List (Option Value)) (ST : T0 → T1 → T2 → List Value) (MU : T0 → T1 → T2 → zS) (hk : ∀ x0 x1 x2, zJ g y d mc ms w o k n pcj (LS x0 x1 x2) (ST x0 x1 x2) (MU x0 x1 x2) (kk x0 x1 x2)) (hb : ∀ j : T0 → T1 → T2 → Option τ, (∀ x0 x1 x2, zJ g y d mc ms w o k n pcj (LS x0 x1 x2) (ST x0 x1 x2) (MU x0 x1 x2) (j x0 x1 x2)) → zJ g y d mc ms w o k n pc ls st μ (b j)) : zJ g y d mc ms w o k n pc ls st μ (zjn3 b kk) := hb kk hk
def zfix4 {α : Type} {T0 : Type} {T1 : Type} {T2 : Type} {T3 : Type} (b : (T0 → T1 → T2 → T3 → Option α) → T0 → T1 → T2 → T3 → Option α) : Nat → T0 → T1 → T2 → T3 → Option α
  | 0 => fun _ _ _ _ => none
  | m + 1 => b (zfix4 b m)
def zjn4 {α : Type} {T0 : Type} {T1 : Type} {T2 : Type} {T3 : Type} (b : (T0 → T1 → T2 → T3 → α) → α) (k : T0 → T1 → T2 → T3 → α) : α := b k
theorem zj_fix4 {τ : Type} {g : zG} {y : zY} {d mc ms : Nat} {w : τ → Option Value × zS} {o : τ} {k n pc : Nat} {T0 : Type} {T1 : Type} {T2 : Type} {T3 : Type} {b : (T0 → T1 → T2 → T3 → Option τ) → T0 → T1 → T2 → T3 → Option τ} {N : Nat} (LS : T0 → T1 → T2 → T3 → List (Option Value)) (MU : T0 → T1 → T2 → T3 → zS) (h : ∀ rec : T0 → T1 → T2 → T3 → Option τ, (∀ x0 x1 x2 x3, zJ g y d mc ms w o k n pc (LS x0 x1 x2 x3) [] (MU x0 x1 x2 x3) (rec x0 x1 x2 x3)) → ∀ x0 x1 x2 x3, zJ g y d mc ms w o k n pc (LS x0 x1 x2 x3) [] (MU x0 x1 x2 x3) (b rec x0 x1 x2 x3)) (x0 : _) (x1 : _) (x2 : _) (x3 : _) : zJ g y d mc ms w o k n pc (LS x0 x1 x2 x3) [] (MU x0 x1 x2 x3) (zfix4 b N x0 x1 x2 x3) := by
  induction N generalizing x0 x1 x2 x3 with
  | zero => intro hf; cases hf
  | succ N ih => exact h (zfix4 b N) (fun x0 x1 x2 x3 => ih x0 x1 x2 x3) x0 x1 x2 x3
theorem zj_jn4 {τ : Type} {g : zG} {y : zY} {d mc ms : Nat} {w : τ → Option Value × zS} {o : τ} {k n pc : Nat} {T0 : Type} {T1 : Type} {T2 : Type} {T3 : Type} {pcj : Nat} {ls : List (Option Value)} {st : List Value} {μ : zS} {b : (T0 → T1 → T2 → T3 → Option τ) → Option τ} {kk : T0 → T1 → T2 → T3 → Option τ} (LS : T0 → T1 → T2 → T3 → List (Option Value)) (ST : T0 → T1 → T2 → T3 → List Value) (MU : T0 → T1 → T2 → T3 → zS) (hk : ∀ x0 x1 x2 x3, zJ g y d mc ms w o k n pcj (LS x0 x1 x2 x3) (ST x0 x1 x2 x3) (MU x0 x1 x2 x3) (kk x0 x1 x2 x3)) (hb : ∀ j : T0 → T1 → T2 → T3 → Option τ, (∀ x0 x1 x2 x3, zJ g y d mc ms w o k n pcj (LS x0 x1 x2 x3) (ST x0 x1 x2 x3) (MU x0 x1 x2 x3) (j x0 x1 x2 x3)) → zJ g y d mc ms w o k n pc ls st μ (b j)) : zJ g y d mc ms w o k n pc ls st μ (zjn4 b kk) := hb kk hk
def zfix5 {α : Type} {T0 : Type} {T1 : Type} {T2 : Type} {T3 : Type} {T4 : Type} (b : (T0 → T1 → T2 → T3 → T4 → Option α) → T0 → T1 → T2 → T3 → T4 → Option α) : Nat → T0 → T1 → T2 → T3 → T4 → Option α
  | 0 => fun _ _ _ _ _ => none
  | m + 1 => b (zfix5 b m)
def zjn5 {α : Type} {T0 : Type} {T1 : Type} {T2 : Type} {T3 : Type} {T4 : Type} (b : (T0 → T1 → T2 → T3 → T4 → α) → α) (k : T0 → T1 → T2 → T3 → T4 → α) : α := b k
theorem zj_fix5 {τ : Type} {g : zG} {y : zY} {d mc ms : Nat} {w : τ → Option Value × zS} {o : τ} {k n pc : Nat} {T0 : Type} {T1 : Type} {T2 : Type} {T3 : Type} {T4 : Type} {b : (T0 → T1 → T2 → T3 → T4 → Option τ) → T0 → T1 → T2 → T3 → T4 → Option τ} {N : Nat} (LS : T0 → T1 → T2 → T3 → T4 → List (Option Value)) (MU : T0 → T1 → T2 → T3 → T4 → zS) (h : ∀ rec : T0 → T1 → T2 → T3 → T4 → Option τ, (∀ x0 x1 x2 x3 x4, zJ g y d mc ms w o k n pc (LS x0 x1 x2 x3 x4) [] (MU x0 x1 x2 x3 x4) (rec x0 x1 x2 x3 x4)) → ∀ x0 x1 x2 x3 x4, zJ g y d mc ms w o k n pc (LS x0 x1 x2 x3 x4) [] (MU x0 x1 x2 x3 x4) (b rec x0 x1 x2 x3 x4)) (x0 : _) (x1 : _) (x2 : _) (x3 : _) (x4 : _) : zJ g y d mc ms w o k n pc (LS x0 x1 x2 x3 x4) [] (MU x0 x1 x2 x3 x4) (zfix5 b N x0 x1 x2 x3 x4) := by
  induction N generalizing x0 x1 x2 x3 x4 with
  | zero => intro hf; cases hf
  | succ N ih => exact h (zfix5 b N) (fun x0 x1 x2 x3 x4 => ih x0 x1 x2 x3 x4) x0 x1 x2 x3 x4
theorem zj_jn5 {τ : Type} {g : zG} {y : zY} {d mc ms : Nat} {w : τ → Option Value × zS} {o : τ} {k n pc : Nat} {T0 : Type} {T1 : Type} {T2 : Type} {T3 : Type} {T4 : Type} {pcj : Nat} {ls : List (Option Value)} {st : List Value} {μ : zS} {b : (T0 → T1 → T2 → T3 → T4 → Option τ) → Option τ} {kk : T0 → T1 → T2 → T3 → T4 → Option τ} (LS : T0 → T1 → T2 → T3 → T4 → List (Option Value)) (ST : T0 → T1 → T2 → T3 → T4 → List Value) (MU : T0 → T1 → T2 → T3 → T4 → zS) (hk : ∀ x0 x1 x2 x3 x4, zJ g y d mc ms w o k n pcj (LS x0 x1 x2 x3 x4) (ST x0 x1 x2 x3 x4) (MU x0 x1 x2 x3 x4) (kk x0 x1 x2 x3 x4)) (hb : ∀ j : T0 → T1 → T2 → T3 → T4 → Option τ, (∀ x0 x1 x2 x3 x4, zJ g y d mc ms w o k n pcj (LS x0 x1 x2 x3 x4) (ST x0 x1 x2 x3 x4) (MU x0 x1 x2 x3 x4) (j x0 x1 x2 x3 x4)) → zJ g y d mc ms w o k n pc ls st μ (b j)) : zJ g y d mc ms w o k n pc ls st μ (zjn5 b kk) := hb kk hk
def zfix6 {α : Type} {T0 : Type} {T1 : Type} {T2 : Type} {T3 : Type} {T4 : Type} {T5 : Type} (b : (T0 → T1 → T2 → T3 → T4 → T5 → Option α) → T0 → T1 → T2 → T3 → T4 → T5 → Option α) : Nat → T0 → T1 → T2 → T3 → T4 → T5 → Option α
  | 0 => fun _ _ _ _ _ _ => none
  | m + 1 => b (zfix6 b m)
def zjn6 {α : Type} {T0 : Type} {T1 : Type} {T2 : Type} {T3 : Type} {T4 : Type} {T5 : Type} (b : (T0 → T1 → T2 → T3 → T4 → T5 → α) → α) (k : T0 → T1 → T2 → T3 → T4 → T5 → α) : α := b k
theorem zj_fix6 {τ : Type} {g : zG} {y : zY} {d mc ms : Nat} {w : τ → Option Value × zS} {o : τ} {k n pc : Nat} {T0 : Type} {T1 : Type} {T2 : Type} {T3 : Type} {T4 : Type} {T5 : Type} {b : (T0 → T1 → T2 → T3 → T4 → T5 → Option τ) → T0 → T1 → T2 → T3 → T4 → T5 → Option τ} {N : Nat} (LS : T0 → T1 → T2 → T3 → T4 → T5 → List (Option Value)) (MU : T0 → T1 → T2 → T3 → T4 → T5 → zS) (h : ∀ rec : T0 → T1 → T2 → T3 → T4 → T5 → Option τ, (∀ x0 x1 x2 x3 x4 x5, zJ g y d mc ms w o k n pc (LS x0 x1 x2 x3 x4 x5) [] (MU x0 x1 x2 x3 x4 x5) (rec x0 x1 x2 x3 x4 x5)) → ∀ x0 x1 x2 x3 x4 x5, zJ g y d mc ms w o k n pc (LS x0 x1 x2 x3 x4 x5) [] (MU x0 x1 x2 x3 x4 x5) (b rec x0 x1 x2 x3 x4 x5)) (x0 : _) (x1 : _) (x2 : _) (x3 : _) (x4 : _) (x5 : _) : zJ g y d mc ms w o k n pc (LS x0 x1 x2 x3 x4 x5) [] (MU x0 x1 x2 x3 x4 x5) (zfix6 b N x0 x1 x2 x3 x4 x5) := by
  induction N generalizing x0 x1 x2 x3 x4 x5 with
  | zero => intro hf; cases hf
  | succ N ih => exact h (zfix6 b N) (fun x0 x1 x2 x3 x4 x5 => ih x0 x1 x2 x3 x4 x5) x0 x1 x2 x3 x4 x5
theorem zj_jn6 {τ : Type} {g : zG} {y : zY} {d mc ms : Nat} {w : τ → Option Value × zS} {o : τ} {k n pc : Nat} {T0 : Type} {T1 : Type} {T2 : Type} {T3 : Type} {T4 : Type} {T5 : Type} {pcj : Nat} {ls : List (Option Value)} {st : List Value} {μ : zS} {b : (T0 → T1 → T2 → T3 → T4 → T5 → Option τ) → Option τ} {kk : T0 → T1 → T2 → T3 → T4 → T5 → Option τ} (LS : T0 → T1 → T2 → T3 → T4 → T5 → List (Option Value)) (ST : T0 → T1 → T2 → T3 → T4 → T5 → List Value) (MU : T0 → T1 → T2 → T3 → T4 → T5 → zS) (hk : ∀ x0 x1 x2 x3 x4 x5, zJ g y d mc ms w o k n pcj (LS x0 x1 x2 x3 x4 x5) (ST x0 x1 x2 x3 x4 x5) (MU x0 x1 x2 x3 x4 x5) (kk x0 x1 x2 x3 x4 x5)) (hb : ∀ j : T0 → T1 → T2 → T3 → T4 → T5 → Option τ, (∀ x0 x1 x2 x3 x4 x5, zJ g y d mc ms w o k n pcj (LS x0 x1 x2 x3 x4 x5) (ST x0 x1 x2 x3 x4 x5) (MU x0 x1 x2 x3 x4 x5) (j x0 x1 x2 x3 x4 x5)) → zJ g y d mc ms w o k n pc ls st μ (b j)) : zJ g y d mc ms w o k n pc ls st μ (zjn6 b kk) := hb kk hk
def zfix7 {α : Type} {T0 : Type} {T1 : Type} {T2 : Type} {T3 : Type} {T4 : Type} {T5 : Type} {T6 : Type} (b : (T0 → T1 → T2 → T3 → T4 → T5 → T6 → Option α) → T0 → T1 → T2 → T3 → T4 → T5 → T6 → Option α) : Nat → T0 → T1 → T2 → T3 → T4 → T5 → T6 → Option α
  | 0 => fun _ _ _ _ _ _ _ => none
  | m + 1 => b (zfix7 b m)
def zjn7 {α : Type} {T0 : Type} {T1 : Type} {T2 : Type} {T3 : Type} {T4 : Type} {T5 : Type} {T6 : Type} (b : (T0 → T1 → T2 → T3 → T4 → T5 → T6 → α) → α) (k : T0 → T1 → T2 → T3 → T4 → T5 → T6 → α) : α := b k
theorem zj_fix7 {τ : Type} {g : zG} {y : zY} {d mc ms : Nat} {w : τ → Option Value × zS} {o : τ} {k n pc : Nat} {T0 : Type} {T1 : Type} {T2 : Type} {T3 : Type} {T4 : Type} {T5 : Type} {T6 : Type} {b : (T0 → T1 → T2 → T3 → T4 → T5 → T6 → Option τ) → T0 → T1 → T2 → T3 → T4 → T5 → T6 → Option τ} {N : Nat} (LS : T0 → T1 → T2 → T3 → T4 → T5 → T6 → List (Option Value)) (MU : T0 → T1 → T2 → T3 → T4 → T5 → T6 → zS) (h : ∀ rec : T0 → T1 → T2 → T3 → T4 → T5 → T6 → Option τ, (∀ x0 x1 x2 x3 x4 x5 x6, zJ g y d mc ms w o k n pc (LS x0 x1 x2 x3 x4 x5 x6) [] (MU x0 x1 x2 x3 x4 x5 x6) (rec x0 x1 x2 x3 x4 x5 x6)) → ∀ x0 x1 x2 x3 x4 x5 x6, zJ g y d mc ms w o k n pc (LS x0 x1 x2 x3 x4 x5 x6) [] (MU x0 x1 x2 x3 x4 x5 x6) (b rec x0 x1 x2 x3 x4 x5 x6)) (x0 : _) (x1 : _) (x2 : _) (x3 : _) (x4 : _) (x5 : _) (x6 : _) : zJ g y d mc ms w o k n pc (LS x0 x1 x2 x3 x4 x5 x6) [] (MU x0 x1 x2 x3 x4 x5 x6) (zfix7 b N x0 x1 x2 x3 x4 x5 x6) := by
  induction N generalizing x0 x1 x2 x3 x4 x5 x6 with
  | zero => intro hf; cases hf
  | succ N ih => exact h (zfix7 b N) (fun x0 x1 x2 x3 x4 x5 x6 => ih x0 x1 x2 x3 x4 x5 x6) x0 x1 x2 x3 x4 x5 x6
theorem zj_jn7 {τ : Type} {g : zG} {y : zY} {d mc ms : Nat} {w : τ → Option Value × zS} {o : τ} {k n pc : Nat} {T0 : Type} {T1 : Type} {T2 : Type} {T3 : Type} {T4 : Type} {T5 : Type} {T6 : Type} {pcj : Nat} {ls : List (Option Value)} {st : List Value} {μ : zS} {b : (T0 → T1 → T2 → T3 → T4 → T5 → T6 → Option τ) → Option τ} {kk : T0 → T1 → T2 → T3 → T4 → T5 → T6 → Option τ} (LS : T0 → T1 → T2 → T3 → T4 → T5 → T6 → List (Option Value)) (ST : T0 → T1 → T2 → T3 → T4 → T5 → T6 → List Value) (MU : T0 → T1 → T2 → T3 → T4 → T5 → T6 → zS) (hk : ∀ x0 x1 x2 x3 x4 x5 x6, zJ g y d mc ms w o k n pcj (LS x0 x1 x2 x3 x4 x5 x6) (ST x0 x1 x2 x3 x4 x5 x6) (MU x0 x1 x2 x3 x4 x5 x6) (kk x0 x1 x2 x3 x4 x5 x6)) (hb : ∀ j : T0 → T1 → T2 → T3 → T4 → T5 → T6 → Option τ, (∀ x0 x1 x2 x3 x4 x5 x6, zJ g y d mc ms w o k n pcj (LS x0 x1 x2 x3 x4 x5 x6) (ST x0 x1 x2 x3 x4 x5 x6) (MU x0 x1 x2 x3 x4 x5 x6) (j x0 x1 x2 x3 x4 x5 x6)) → zJ g y d mc ms w o k n pc ls st μ (b j)) : zJ g y d mc ms w o k n pc ls st μ (zjn7 b kk) := hb kk hk
def zfix8 {α : Type} {T0 : Type} {T1 : Type} {T2 : Type} {T3 : Type} {T4 : Type} {T5 : Type} {T6 : Type} {T7 : Type} (b : (T0 → T1 → T2 → T3 → T4 → T5 → T6 → T7 → Option α) → T0 → T1 → T2 → T3 → T4 → T5 → T6 → T7 → Option α) : Nat → T0 → T1 → T2 → T3 → T4 → T5 → T6 → T7 → Option α
  | 0 => fun _ _ _ _ _ _ _ _ => none
  | m + 1 => b (zfix8 b m)
def zjn8 {α : Type} {T0 : Type} {T1 : Type} {T2 : Type} {T3 : Type} {T4 : Type} {T5 : Type} {T6 : Type} {T7 : Type} (b : (T0 → T1 → T2 → T3 → T4 → T5 → T6 → T7 → α) → α) (k : T0 → T1 → T2 → T3 → T4 → T5 → T6 → T7 → α) : α := b k
theorem zj_fix8 {τ : Type} {g : zG} {y : zY} {d mc ms : Nat} {w : τ → Option Value × zS} {o : τ} {k n pc : Nat} {T0 : Type} {T1 : Type} {T2 : Type} {T3 : Type} {T4 : Type} {T5 : Type} {T6 : Type} {T7 : Type} {b : (T0 → T1 → T2 → T3 → T4 → T5 → T6 → T7 → Option τ) → T0 → T1 → T2 → T3 → T4 → T5 → T6 → T7 → Option τ} {N : Nat} (LS : T0 → T1 → T2 → T3 → T4 → T5 → T6 → T7 → List (Option Value)) (MU : T0 → T1 → T2 → T3 → T4 → T5 → T6 → T7 → zS) (h : ∀ rec : T0 → T1 → T2 → T3 → T4 → T5 → T6 → T7 → Option τ, (∀ x0 x1 x2 x3 x4 x5 x6 x7, zJ g y d mc ms w o k n pc (LS x0 x1 x2 x3 x4 x5 x6 x7) [] (MU x0 x1 x2 x3 x4 x5 x6 x7) (rec x0 x1 x2 x3 x4 x5 x6 x7)) → ∀ x0 x1 x2 x3 x4 x5 x6 x7, zJ g y d mc ms w o k n pc (LS x0 x1 x2 x3 x4 x5 x6 x7) [] (MU x0 x1 x2 x3 x4 x5 x6 x7) (b rec x0 x1 x2 x3 x4 x5 x6 x7)) (x0 : _) (x1 : _) (x2 : _) (x3 : _) (x4 : _) (x5 : _) (x6 : _) (x7 : _) : zJ g y d mc ms w o k n pc (LS x0 x1 x2 x3 x4 x5 x6 x7) [] (MU x0 x1 x2 x3 x4 x5 x6 x7) (zfix8 b N x0 x1 x2 x3 x4 x5 x6 x7) := by
  induction N generalizing x0 x1 x2 x3 x4 x5 x6 x7 with
  | zero => intro hf; cases hf
  | succ N ih => exact h (zfix8 b N) (fun x0 x1 x2 x3 x4 x5 x6 x7 => ih x0 x1 x2 x3 x4 x5 x6 x7) x0 x1 x2 x3 x4 x5 x6 x7
theorem zj_jn8 {τ : Type} {g : zG} {y : zY} {d mc ms : Nat} {w : τ → Option Value × zS} {o : τ} {k n pc : Nat} {T0 : Type} {T1 : Type} {T2 : Type} {T3 : Type} {T4 : Type} {T5 : Type} {T6 : Type} {T7 : Type} {pcj : Nat} {ls : List (Option Value)} {st : List Value} {μ : zS} {b : (T0 → T1 → T2 → T3 → T4 → T5 → T6 → T7 → Option τ) → Option τ} {kk : T0 → T1 → T2 → T3 → T4 → T5 → T6 → T7 → Option τ} (LS : T0 → T1 → T2 → T3 → T4 → T5 → T6 → T7 → List (Option Value)) (ST : T0 → T1 → T2 → T3 → T4 → T5 → T6 → T7 → List Value) (MU : T0 → T1 → T2 → T3 → T4 → T5 → T6 → T7 → zS) (hk : ∀ x0 x1 x2 x3 x4 x5 x6 x7, zJ g y d mc ms w o k n pcj (LS x0 x1 x2 x3 x4 x5 x6 x7) (ST x0 x1 x2 x3 x4 x5 x6 x7) (MU x0 x1 x2 x3 x4 x5 x6 x7) (kk x0 x1 x2 x3 x4 x5 x6 x7)) (hb : ∀ j : T0 → T1 → T2 → T3 → T4 → T5 → T6 → T7 → Option τ, (∀ x0 x1 x2 x3 x4 x5 x6 x7, zJ g y d mc ms w o k n pcj (LS x0 x1 x2 x3 x4 x5 x6 x7) (ST x0 x1 x2 x3 x4 x5 x6 x7) (MU x0 x1 x2 x3 x4 x5 x6 x7) (j x0 x1 x2 x3 x4 x5 x6 x7)) → zJ g y d mc ms w o k n pc ls st μ (b j)) : zJ g y d mc ms w o k n pc ls st μ (zjn8 b kk) := hb kk hk
def zfix9 {α : Type} {T0 : Type} {T1 : Type} {T2 : Type} {T3 : Type} {T4 : Type} {T5 : Type} {T6 : Type} {T7 : Type} {T8 : Type} (b : (T0 → T1 → T2 → T3 → T4 → T5 → T6 → T7 → T8 → Option α) → T0 → T1 → T2 → T3 → T4 → T5 → T6 → T7 → T8 → Option α) : Nat → T0 → T1 → T2 → T3 → T4 → T5 → T6 → T7 → T8 → Option α
  | 0 => fun _ _ _ _ _ _ _ _ _ => none
  | m + 1 => b (zfix9 b m)
def zjn9 {α : Type} {T0 : Type} {T1 : Type} {T2 : Type} {T3 : Type} {T4 : Type} {T5 : Type} {T6 : Type} {T7 : Type} {T8 : Type} (b : (T0 → T1 → T2 → T3 → T4 → T5 → T6 → T7 → T8 → α) → α) (k : T0 → T1 → T2 → T3 → T4 → T5 → T6 → T7 → T8 → α) : α := b k
theorem zj_fix9 {τ : Type} {g : zG} {y : zY} {d mc ms : Nat} {w : τ → Option Value × zS} {o : τ} {k n pc : Nat} {T0 : Type} {T1 : Type} {T2 : Type} {T3 : Type} {T4 : Type} {T5 : Type} {T6 : Type} {T7 : Type} {T8 : Type} {b : (T0 → T1 → T2 → T3 → T4 → T5 → T6 → T7 → T8 → Option τ) → T0 → T1 → T2 → T3 → T4 → T5 → T6 → T7 → T8 → Option τ} {N : Nat} (LS : T0 → T1 → T2 → T3 → T4 → T5 → T6 → T7 → T8 → List (Option Value)) (MU : T0 → T1 → T2 → T3 → T4 → T5 → T6 → T7 → T8 → zS) (h : ∀ rec : T0 → T1 → T2 → T3 → T4 → T5 → T6 → T7 → T8 → Option τ, (∀ x0 x1 x2 x3 x4 x5 x6 x7 x8, zJ g y d mc ms w o k n pc (LS x0 x1 x2 x3 x4 x5 x6 x7 x8) [] (MU x0 x1 x2 x3 x4 x5 x6 x7 x8) (rec x0 x1 x2 x3 x4 x5 x6 x7 x8)) → ∀ x0 x1 x2 x3 x4 x5 x6 x7 x8, zJ g y d mc ms w o k n pc (LS x0 x1 x2 x3 x4 x5 x6 x7 x8) [] (MU x0 x1 x2 x3 x4 x5 x6 x7 x8) (b rec x0 x1 x2 x3 x4 x5 x6 x7 x8)) (x0 : _) (x1 : _) (x2 : _) (x3 : _) (x4 : _) (x5 : _) (x6 : _) (x7 : _) (x8 : _) : zJ g y d mc ms w o k n pc (LS x0 x1 x2 x3 x4 x5 x6 x7 x8) [] (MU x0 x1 x2 x3 x4 x5 x6 x7 x8) (zfix9 b N x0 x1 x2 x3 x4 x5 x6 x7 x8) := by
  induction N generalizing x0 x1 x2 x3 x4 x5 x6 x7 x8 with
  | zero => intro hf; cases hf
  | succ N ih => exact h (zfix9 b N) (fun x0 x1 x2 x3 x4 x5 x6 x7 x8 => ih x0 x1 x2 x3 x4 x5 x6 x7 x8) x0 x1 x2 x3 x4 x5 x6 x7 x8
theorem zj_jn9 {τ : Type} {g : zG} {y : zY} {d mc ms : Nat} {w : τ → Option Value × zS} {o : τ} {k n pc : Nat} {T0 : Type} {T1 : Type} {T2 : Type} {T3 : Type} {T4 : Type} {T5 : Type} {T6 : Type} {T7 : Type} {T8 : Type} {pcj : Nat} {ls : List (Option Value)} {st : List Value} {μ : zS} {b : (T0 → T1 → T2 → T3 → T4 → T5 → T6 → T7 → T8 → Option τ) → Option τ} {kk : T0 → T1 → T2 → T3 → T4 → T5 → T6 → T7 → T8 → Option τ} (LS : T0 → T1 → T2 → T3 → T4 → T5 → T6 → T7 → T8 → List (Option Value)) (ST : T0 → T1 → T2 → T3 → T4 → T5 → T6 → T7 → T8 → List Value) (MU : T0 → T1 → T2 → T3 → T4 → T5 → T6 → T7 → T8 → zS) (hk : ∀ x0 x1 x2 x3 x4 x5 x6 x7 x8, zJ g y d mc ms w o k n pcj (LS x0 x1 x2 x3 x4 x5 x6 x7 x8) (ST x0 x1 x2 x3 x4 x5 x6 x7 x8) (MU x0 x1 x2 x3 x4 x5 x6 x7 x8) (kk x0 x1 x2 x3 x4 x5 x6 x7 x8)) (hb : ∀ j : T0 → T1 → T2 → T3 → T4 → T5 → T6 → T7 → T8 → Option τ, (∀ x0 x1 x2 x3 x4 x5 x6 x7 x8, zJ g y d mc ms w o k n pcj (LS x0 x1 x2 x3 x4 x5 x6 x7 x8) (ST x0 x1 x2 x3 x4 x5 x6 x7 x8) (MU x0 x1 x2 x3 x4 x5 x6 x7 x8) (j x0 x1 x2 x3 x4 x5 x6 x7 x8)) → zJ g y d mc ms w o k n pc ls st μ (b j)) : zJ g y d mc ms w o k n pc ls st μ (zjn9 b kk) := hb kk hk
def zfix10 {α : Type} {T0 : Type} {T1 : Type} {T2 : Type} {T3 : Type} {T4 : Type} {T5 : Type} {T6 : Type} {T7 : Type} {T8 : Type} {T9 : Type} (b : (T0 → T1 → T2 → T3 → T4 → T5 → T6 → T7 → T8 → T9 → Option α) → T0 → T1 → T2 → T3 → T4 → T5 → T6 → T7 → T8 → T9 → Option α) : Nat → T0 → T1 → T2 → T3 → T4 → T5 → T6 → T7 → T8 → T9 → Option α
  | 0 => fun _ _ _ _ _ _ _ _ _ _ => none
  | m + 1 => b (zfix10 b m)
def zjn10 {α : Type} {T0 : Type} {T1 : Type} {T2 : Type} {T3 : Type} {T4 : Type} {T5 : Type} {T6 : Type} {T7 : Type} {T8 : Type} {T9 : Type} (b : (T0 → T1 → T2 → T3 → T4 → T5 → T6 → T7 → T8 → T9 → α) → α) (k : T0 → T1 → T2 → T3 → T4 → T5 → T6 → T7 → T8 → T9 → α) : α := b k
theorem zj_fix10 {τ : Type} {g : zG} {y : zY} {d mc ms : Nat} {w : τ → Option Value × zS} {o : τ} {k n pc : Nat} {T0 : Type} {T1 : Type} {T2 : Type} {T3 : Type} {T4 : Type} {T5 : Type} {T6 : Type} {T7 : Type} {T8 : Type} {T9 : Type} {b : (T0 → T1 → T2 → T3 → T4 → T5 → T6 → T7 → T8 → T9 → Option τ) → T0 → T1 → T2 → T3 → T4 → T5 → T6 → T7 → T8 → T9 → Option τ} {N : Nat} (LS : T0 → T1 → T2 → T3 → T4 → T5 → T6 → T7 → T8 → T9 → List (Option Value)) (MU : T0 → T1 → T2 → T3 → T4 → T5 → T6 → T7 → T8 → T9 → zS) (h : ∀ rec : T0 → T1 → T2 → T3 → T4 → T5 → T6 → T7 → T8 → T9 → Option τ, (∀ x0 x1 x2 x3 x4 x5 x6 x7 x8 x9, zJ g y d mc ms w o k n pc (LS x0 x1 x2 x3 x4 x5 x6 x7 x8 x9) [] (MU x0 x1 x2 x3 x4 x5 x6 x7 x8 x9) (rec x0 x1 x2 x3 x4 x5 x6 x7 x8 x9)) → ∀ x0 x1 x2 x3 x4 x5 x6 x7 x8 x9, zJ g y d mc ms w o k n pc (LS x0 x1 x2 x3 x4 x5 x6 x7 x8 x9) [] (MU x0 x1 x2 x3 x4 x5 x6 x7 x8 x9) (b rec x0 x1 x2 x3 x4 x5 x6 x7 x8 x9)) (x0 : _) (x1 : _) (x2 : _) (x3 : _) (x4 : _) (x5 : _) (x6 : _) (x7 : _) (x8 : _) (x9 : _) : zJ g y d mc ms w o k n pc (LS x0 x1 x2 x3 x4 x5 x6 x7 x8 x9) [] (MU x0 x1 x2 x3 x4 x5 x6 x7 x8 x9) (zfix10 b N x0 x1 x2 x3 x4 x5 x6 x7 x8 x9) := by
  induction N generalizing x0 x1 x2 x3 x4 x5 x6 x7 x8 x9 with
  | zero => intro hf; cases hf
  | succ N ih => exact h (zfix10 b N) (fun x0 x1 x2 x3 x4 x5 x6 x7 x8 x9 => ih x0 x1 x2 x3 x4 x5 x6 x7 x8 x9) x0 x1 x2 x3 x4 x5 x6 x7 x8 x9
theorem zj_jn10 {τ : Type} {g : zG} {y : zY} {d mc ms : Nat} {w : τ → Option Value × zS} {o : τ} {k n pc : Nat} {T0 : Type} {T1 : Type} {T2 : Type} {T3 : Type} {T4 : Type} {T5 : Type} {T6 : Type} {T7 : Type} {T8 : Type} {T9 : Type} {pcj : Nat} {ls : List (Option Value)} {st : List Value} {μ : zS} {b : (T0 → T1 → T2 → T3 → T4 → T5 → T6 → T7 → T8 → T9 → Option τ) → Option τ} {kk : T0 → T1 → T2 → T3 → T4 → T5 → T6 → T7 → T8 → T9 → Option τ} (LS : T0 → T1 → T2 → T3 → T4 → T5 → T6 → T7 → T8 → T9 → List (Option Value)) (ST : T0 → T1 → T2 → T3 → T4 → T5 → T6 → T7 → T8 → T9 → List Value) (MU : T0 → T1 → T2 → T3 → T4 → T5 → T6 → T7 → T8 → T9 → zS) (hk : ∀ x0 x1 x2 x3 x4 x5 x6 x7 x8 x9, zJ g y d mc ms w o k n pcj (LS x0 x1 x2 x3 x4 x5 x6 x7 x8 x9) (ST x0 x1 x2 x3 x4 x5 x6 x7 x8 x9) (MU x0 x1 x2 x3 x4 x5 x6 x7 x8 x9) (kk x0 x1 x2 x3 x4 x5 x6 x7 x8 x9)) (hb : ∀ j : T0 → T1 → T2 → T3 → T4 → T5 → T6 → T7 → T8 → T9 → Option τ, (∀ x0 x1 x2 x3 x4 x5 x6 x7 x8 x9, zJ g y d mc ms w o k n pcj (LS x0 x1 x2 x3 x4 x5 x6 x7 x8 x9) (ST x0 x1 x2 x3 x4 x5 x6 x7 x8 x9) (MU x0 x1 x2 x3 x4 x5 x6 x7 x8 x9) (j x0 x1 x2 x3 x4 x5 x6 x7 x8 x9)) → zJ g y d mc ms w o k n pc ls st μ (b j)) : zJ g y d mc ms w o k n pc ls st μ (zjn10 b kk) := hb kk hk
