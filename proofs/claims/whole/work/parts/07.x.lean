/-! the typed heap: kinds, next free number, its limit, int fields, reference fields, long fields, int rows, reference rows, lengths -/
abbrev xS : Type := (Nat → Nat) × Nat × Nat × (Nat → Nat → Int32) × (Nat → Nat → Option Nat) × (Nat → Nat → Int64) × (Nat → Nat → Int32) × (Nat → Nat → Option Nat) × (Nat → Nat)
def xh_k (σ : xS) : Nat → Nat := σ.1
def xh_n (σ : xS) : Nat := σ.2.1
def xh_m (σ : xS) : Nat := σ.2.2.1
def xh_I (σ : xS) : Nat → Nat → Int32 := σ.2.2.2.1
def xh_R (σ : xS) : Nat → Nat → Option Nat := σ.2.2.2.2.1
def xh_L (σ : xS) : Nat → Nat → Int64 := σ.2.2.2.2.2.1
def xh_a (σ : xS) : Nat → Nat → Int32 := σ.2.2.2.2.2.2.1
def xh_q (σ : xS) : Nat → Nat → Option Nat := σ.2.2.2.2.2.2.2.1
def xh_z (σ : xS) : Nat → Nat := σ.2.2.2.2.2.2.2.2
def xu_2 {α : Type} (F : Nat → Nat → α) (f a : Nat) (v : α) : Nat → Nat → α := fun g b => if g = f ∧ b = a then v else F g b
def xs_I (σ : xS) (f a : Nat) (v : Int32) : xS := (xh_k σ, xh_n σ, xh_m σ, xu_2 (xh_I σ) f a v, xh_R σ, xh_L σ, xh_a σ, xh_q σ, xh_z σ)
def xs_R (σ : xS) (f a : Nat) (v : Option Nat) : xS := (xh_k σ, xh_n σ, xh_m σ, xh_I σ, xu_2 (xh_R σ) f a v, xh_L σ, xh_a σ, xh_q σ, xh_z σ)
def xs_L (σ : xS) (f a : Nat) (v : Int64) : xS := (xh_k σ, xh_n σ, xh_m σ, xh_I σ, xh_R σ, xu_2 (xh_L σ) f a v, xh_a σ, xh_q σ, xh_z σ)
def xs_a (σ : xS) (a i : Nat) (v : Int32) : xS := (xh_k σ, xh_n σ, xh_m σ, xh_I σ, xh_R σ, xh_L σ, xu_2 (xh_a σ) a i v, xh_q σ, xh_z σ)
def xs_q (σ : xS) (a i : Nat) (v : Option Nat) : xS := (xh_k σ, xh_n σ, xh_m σ, xh_I σ, xh_R σ, xh_L σ, xh_a σ, xu_2 (xh_q σ) a i v, xh_z σ)
/-- a new object of the class ci: its fields are 0, null -/
def xs_new (σ : xS) (ci : Nat) : xS := (va_up (xh_k σ) (xh_n σ) (ci + 1), xh_n σ + 1, xh_m σ, (fun g b => if b = xh_n σ then 0 else xh_I σ g b), (fun g b => if b = xh_n σ then none else xh_R σ g b), (fun g b => if b = xh_n σ then 0 else xh_L σ g b), xh_a σ, xh_q σ, xh_z σ)
/-- a new array of the kind k (9 int, 10 boolean, 11 .. 14 references), of n places -/
def xs_arr (σ : xS) (k n : Nat) : xS := (va_up (xh_k σ) (xh_n σ) k, xh_n σ + 1, xh_m σ, xh_I σ, xh_R σ, xh_L σ, (fun b i => if b = xh_n σ then 0 else xh_a σ b i), (fun b i => if b = xh_n σ then none else xh_q σ b i), va_up (xh_z σ) (xh_n σ) n)
-- classes
def xf_ty (ci k : Nat) : FieldType := match ci with
  | 0 => tyX0 k
  | 1 => tyX1 k
  | 2 => tyX2 k
  | 3 => tyX3 k
  | 4 => tyX4 k
  | 5 => tyX5 k
  | 6 => tyX6 k
  | _ => tyX7 k
def xf_N (ci : Nat) : Nat := match ci with
  | 0 => 3
  | 1 => 13
  | 2 => 9
  | 3 => 9
  | 4 => 3
  | 5 => 4
  | 6 => 10
  | _ => 59
def xf_C (ci : Nat) : String := match ci with
  | 0 => RX0
  | 1 => RX1
  | 2 => RX2
  | 3 => RX3
  | 4 => RX4
  | 5 => RX5
  | 6 => RX6
  | _ => RX7
def xf_T (ci : Nat) : u_T := match ci with
  | 0 => TX0
  | 1 => TX1
  | 2 => TX2
  | 3 => TX3
  | 4 => TX4
  | 5 => TX5
  | 6 => TX6
  | _ => TX7
/-- the sort of a field: 0 a number of 32 bits, 1 a reference, 2 a long -/
def xf_s (ty : FieldType) : Nat := match ty with
  | .object _ => 1
  | .array _ => 1
  | .long => 2
  | _ => 0
def xf_v (σ : xS) (ci k a : Nat) : Value := if xf_s (xf_ty ci k) = 1 then va_rf (xh_R σ (64 * ci + k) a) else if xf_s (xf_ty ci k) = 2 then .long (xh_L σ (64 * ci + k) a) else .int (xh_I σ (64 * ci + k) a)
abbrev xG : Type := va_G × (Nat → ClassId)
abbrev xT (G : xG) : List (ClassId × FieldType) := [(G.2 0, .int), (G.2 1, .boolean), (G.2 2, .object RX3), (G.2 3, .object RX2), (G.2 4, .object RX4), (G.2 5, .object RX5)]
/-- the heap holds the typed heap -/
def xr (G : xG) (σ : xS) (H : Heap) : Prop :=
  (∀ a ci, xh_k σ a = ci + 1 → ci < 8 → t_OB a (G.1.1 ci) (xf_N ci) (G.1.2 ci) H (fun j => xf_v σ ci j a)) ∧
  (∀ a t, xh_k σ a = t + 9 → t < 2 → H[a]? = some (arrV (G.2 t) (xh_z σ a) (fun j => .int (xh_a σ a j)))) ∧
  (∀ a t, xh_k σ a = t + 11 → t < 4 → H[a]? = some (arrV (G.2 (t + 2)) (xh_z σ a) (fun j => va_rf (xh_q σ a j)))) ∧
  (∀ a, xh_k σ a < 15) ∧ (∀ a, xh_k σ a ≠ 0 → a < H.size)
def xtot (H : Heap) : Nat := H.foldl (fun n c => n + c.slots.size) 0
/-- the words of the tables that every call may take along -/
def xTb : List Cond := lw_tbl.filter goodWord
-- a method: its name, code, number of local places, type of the answer, frames and words of its room
abbrev xM : Type := MethodName × ByteArray × Nat × Option FieldType × Nat × Nat
abbrev xm_y (M : xM) : MethodName := M.1
abbrev xm_c (M : xM) : ByteArray := M.2.1
abbrev xm_n (M : xM) : Nat := M.2.2.1
abbrev xm_r (M : xM) : Option FieldType := M.2.2.2.1
abbrev xm_f (M : xM) : Nat := M.2.2.2.2.1
abbrev xm_l (M : xM) : Nat := M.2.2.2.2.2
def xW (M : xM) : List Cond := Cond.code (xm_y M) (xm_c M) (xm_n M) (xm_r M) :: xTb
def xa_c (t : Nat) : Nat := match t with
  | 0 => 3
  | 1 => 2
  | 2 => 4
  | _ => 5
/-- the links between nest mates that aren't among the words -/
def xNw (U : State) : Prop := (va_Nw (.methodLinkNest RX6 35 yX0_init RX6) U ∧ va_Nw (.methodLinkNest RX2 9 yX0_init RX6) U ∧ va_Nw (.methodLinkNest RX3 9 yX0_init RX6) U ∧ va_Nw (.methodLinkNest RX5 9 yX0_init RX6) U) ∧ ∀ t, t < 4 → va_AO (xf_C (xa_c t)) U
def xK (G : xG) (U : State) : Prop := va_K G.1 vwCl (xT G) U ∧ xNw U
def xA (σ : xS) : Nat → Prop := fun a => xh_k σ a ≠ 0 ∨ xh_n σ ≤ a
/-- the room: what is behind B.1 cells, B.2 slots -/
abbrev xR (B : Nat × Nat) (f l sz sl : Nat) : Room := { frames := f, cells := B.1 + 18000 - sz, slots := B.2 + 7200000 - sl, locals := l }
/-- what the heap and the numbers are at any time -/
def xE (B : Nat × Nat) (G : xG) (σ : xS) (H : Heap) : Prop := xr G σ H ∧ H.size = xh_n σ ∧ xh_m σ = B.1 + 18000 ∧ B.1 ≤ xh_n σ ∧ xh_n σ ≤ xh_m σ
def xP (B : Nat × Nat) (G : xG) (σ : xS) (sl : Nat) (U : State) : Prop := xE B G σ U.heap ∧ xtot U.heap = sl ∧ sl ≤ B.2 + 400 * (xh_n σ - B.1) ∧ xK G U
def xQ (B : Nat × Nat) (G : xG) (A : Nat → Prop) (Q : Option Value → xS → Prop) : Array Value → State → Outcome → State → Prop := fun _ st o t =>
  ∃ (r : Option Value) (σ : xS), o = .returned r ∧ Q r σ ∧ xE B G σ t.heap ∧ xtot t.heap ≤ B.2 + 400 * (xh_n σ - B.1) ∧ (∀ a, xh_k σ a ≠ 0 → A a) ∧ va_F A st t
/-- A CONTRACT: from the typed heap σ the method M returns, with Q of its answer and of the typed heap then -/
def xCt (M : xM) (av : List Value) (σ : xS) (Q : Option Value → xS → Prop) : Prop := ∀ (l : Launch) (B : Nat × Nat) (G : xG) (sl : Nat),
  Met l (xm_y M) (xW M) (xR B (xm_f M) (xm_l M) (xh_n σ) sl) (va_Pc av (xP B G σ sl)) (xQ B G (xA σ) Q) (B.1 + 18000 - xh_n σ) (B.2 + 7200000 - sl) (xA σ)
/-- what holds all through a method's body -/
def xC (M : xM) (B : Nat × Nat) (G : xG) (A : Nat → Prop) (p : Program) (R : Room) (s : State) (m : MethodId) (args : Array Value) (meth : Method) (c : Code) : Prop :=
  p.tables.exec = Jvm.exec ∧ c.code = xm_c M ∧ meth.sig.returnType = xm_r M ∧ c.maxLocals = xm_n M ∧ s.vm.findClass (xm_y M).cls = some m.cls ∧ (∀ w ∈ xW M, w.before args s = true) ∧ xK G s ∧ meth.locks = false ∧ meth.name = (xm_y M).name ∧ (∀ q, s.heap.size ≤ q → A q) ∧
  R = xR B (xm_f M) (xm_l M) s.heap.size (xtot s.heap) ∧ B.1 ≤ s.heap.size
/-- where the body is: the heap, and what is spent -/
def xL (B : Nat × Nat) (G : xG) (A : Nat → Prop) (s : State) (σ : xS) (H : Heap) (locs : List Loc) (cells slots : Nat) : Prop :=
  xE B G σ H ∧ va_S A s.heap H locs ∧ (∀ a, xh_k σ a ≠ 0 → A a) ∧ cells + s.heap.size = H.size ∧ xtot s.heap + slots ≤ B.2 + 400 * (H.size - B.1)
/-- THE WALK: the method M stands at pc, with the local values lv, the operands st, over the typed heap σ: it returns, with Q -/
def xX (M : xM) (pc : Nat) (lv : List (Nat × Value)) (st : List Value) (σ : xS) (Q : Option Value → xS → Prop) : Prop :=
  ∀ (l : Launch) (B : Nat × Nat) (G : xG) (A : Nat → Prop) (p : Program) (e : Env) (R : Room) (s : State) (m : MethodId) (args : Array Value) (below : List Frame) (meth : Method) (c : Code), xC M B G A p R s m args meth c →
  ∀ (H : Heap) (locs : List Loc) (cells slots : Nat), xL B G A s σ H locs cells slots → ∀ (ls : Array Slot), lv_has ls (xm_n M) lv →
    W p l e R s m args below meth c H locs cells slots (MQ below (xQ B G A Q) args s R.cells R.slots A) (F0 m pc ls st)
section XW
variable {p : Program} {l : Launch} {e : Env} {R : Room} {s : State} {m : MethodId} {args : Array Value} {below : List Frame} {meth : Method} {c : Code} {H : Heap} {locs : List Loc} {cells slots : Nat} {Q : State → Prop} {g : JFrame}
theorem xw_sums {T : State} (X : Stand p l e R s m args below meth c T locs cells slots) : xtot s.heap ≤ xtot T.heap ∧ xtot T.heap ≤ xtot s.heap + slots := by
  have h0 : s.slotsTrue = true := by
    have h := X.room
    simp only [State.hasRoom, Bool.and_eq_true] at h
    exact h.2
  have h1 := X.book
  have h2 := X.used
  have h3 : T.slotsUsed = s.slotsUsed + _ := X.same.2.2.2.1
  have e0 : s.slotsUsed = xtot s.heap := by simpa [State.slotsTrue, xtot] using h0
  have e1 : T.slotsUsed = xtot T.heap := by simpa [State.slotsTrue, xtot] using h1
  constructor
  · rw [← e0, ← e1, h3]; exact Nat.le_add_right _ _
  · rw [← e0, ← e1]; exact h2
/-- what the book of the slots says may be used at any time -/
theorem xw_used (kk : xtot s.heap ≤ xtot H → xtot H ≤ xtot s.heap + slots → W p l e R s m args below meth c H locs cells slots Q g) : W p l e R s m args below meth c H locs cells slots Q g := by
  intro T hT X
  have h := xw_sums X
  rw [hT] at h
  exact kk h.1 h.2 T hT X
/-- what is spent is what the heap shows -/
theorem xw_tight {k n : Nat} (h1 : H.size ≤ s.heap.size + k) (h2 : xtot H ≤ xtot s.heap + n) (kk : W p l e R s m args below meth c H locs k n Q g) : W p l e R s m args below meth c H locs cells slots Q g := by
  intro T hT X
  refine kk T hT { X with same := ?_ }
  have hs := xw_sums X
  obtain ⟨e1, e2, e3, e4, e5, e6⟩ := X.same
  have h0 : s.slotsTrue = true := by
    have h := X.room
    simp only [State.hasRoom, Bool.and_eq_true] at h
    exact h.2
  have e0 : s.slotsUsed = xtot s.heap := by simpa [State.slotsTrue, xtot] using h0
  have eT : T.slotsUsed = xtot T.heap := by simpa [State.slotsTrue, xtot] using X.book
  refine ⟨e1, e2, ?_, e4, ?_, e6⟩
  · show T.heap.size ≤ _
    rw [hT]; exact h1
  · have e4' : T.slotsUsed = s.slotsUsed + _ := e4
    rw [eT, hT, e0] at e4'
    exact Nat.le_of_add_le_add_left (by rw [← e4']; exact h2)
end XW
