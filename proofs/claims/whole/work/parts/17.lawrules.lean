/-! THE CLAIM OUT OF ONE WALK OF THE LAW'S BODY. Your part is whole_start (and what it stands on); all else here is the same for every law, but numbers. -/
def R_law : String := "PromiseWireLaw"
def lw_P (b : Addr) (xs : List Int32) (args : Array Value) (s : State) : Prop := args = #[.ref b] ∧ s.IntsAt b xs ∧ xs.length ≤ 3584 ∧ (Jvm.Cond.and given_1 narrow_1).before args s = true
def lw_Q (_ : Array Value) (s : State) (o : Outcome) (t : State) : Prop := o = .returned (some (.int 1)) ∧ Framed s o t [] 600000 7302250
def lw_Z (below : List Frame) (a : Array Value) (s : State) : State → Prop := fun t => ∃ o, t.status = .running ∧ Ended t below o ∧ lw_Q a s o t
/-- the law's own end, with 1 on the stack, nothing written that was there before, its room as the claim has it -/
theorem lw_ret {p : Program} {l : Launch} {e : Env} {s : State} {m : MethodId} {below : List Frame} {meth : Method} {c : Code} {b : Nat} (hx : p.tables.exec = Jvm.exec) (hb : c.code = code) (hr : meth.sig.returnType = ret) (hlocks : meth.locks = false) {pc : Nat} {H : Heap} {ls : Array Slot} (hdg : decode code pc = .ok (.ireturn, 1)) : W p l e room_1 s m #[Value.ref b] below meth c H [] 600000 7302250 (lw_Z below #[Value.ref b] s) (F0 m pc ls [.int 1]) := by
  intro T hT X
  obtain ⟨fs, hret, hrun, hended, hW, hframe⟩ := X.leave (v := some (.int 1)) (hlocks := hlocks) (fun h => by rw [hr] at h; cases h)
  have hmeth' : T.vm.method? m = some meth := X.method'
  refine ⟨T.setFrames fs, ?_, .returned (some (.int 1)), hrun, hended, rfl, ⟨_, rfl⟩, hW, hframe⟩
  jvm_step X.here [X.here.top, hx, hb, hdg, hmeth', hr, ret, narrow_b1]
  (try refine ⟨rfl, ?_⟩); (try refine ⟨rfl, ?_⟩)
  first | (intro acts; rw [hret _ acts rfl rfl rfl]) | rw [hret _ _ rfl rfl rfl]
  exact Steps.refl _
/-- what holds at the law's entry: the machine, the code, the tables' words (any of lw_tbl by 'hts w (by decide +kernel)'), the script of L ints xs at the cell b, what the Statement gives of the start (any of its parts by flat_of_before) -/
def lw_At (p : Program) (s : State) (m : MethodId) (meth : Method) (c : Code) (b L : Nat) (xs : Nat → Int32) : Prop :=
  p.tables.exec = Jvm.exec ∧ c.code = code ∧ meth.sig.returnType = ret ∧ c.maxLocals = 4 ∧ s.vm.findClass R_law = some m.cls ∧ (∀ w ∈ lw_tbl, w.before #[Value.ref b] s = true) ∧ va_X b L xs s s.heap ∧ b < s.heap.size ∧ meth.locks = false ∧ (Jvm.Cond.and given_1 narrow_1).before #[Value.ref b] s = true

/-- the heap's end moved -/
def yN (τ : xS) (n : Nat) : xS := (xh_k τ, n, xh_m τ, xh_I τ, xh_R τ, xh_L τ, xh_a τ, xh_q τ, xh_z τ)
theorem xr_n {G : xG} {τ : xS} {n : Nat} {H : Heap} (h : xr G τ H) : xr G (yN τ n) H := h
theorem xr_kept {G : xG} {τ : xS} {H H2 : Heap} (h : xr G τ H) (hz : H.size ≤ H2.size) (ho : ∀ a, xh_k τ a ≠ 0 → H2[a]? = H[a]?) : xr G τ H2 := by
  obtain ⟨h1, h2, h3, h4, h5⟩ := h
  exact ⟨fun a ci ha hc => (h1 a ci ha hc).kept (ho a (by omega)), fun a t ha ht => (ho a (by omega)).trans (h2 a t ha ht), fun a t ha ht => (ho a (by omega)).trans (h3 a t ha ht), h4, fun a ha => Nat.lt_of_lt_of_le (h5 a ha) hz⟩
/-- where the law is: the class's cells σ, the reference's τ -/
def yE (s : State) (G : xG) (σ τ : xS) (H : Heap) (locs : List Loc) (cells slots : Nat) : Prop :=
  xE (s.heap.size, xtot s.heap) G σ H ∧ xr G τ H ∧ (∀ a, xh_k σ a ≠ 0 → xh_k τ a = 0) ∧ xh_m τ = s.heap.size + 18000 ∧ va_S (fun q => s.heap.size ≤ q) s.heap H locs ∧ (∀ a, xh_k σ a ≠ 0 → s.heap.size ≤ a) ∧ (∀ a, xh_k τ a ≠ 0 → s.heap.size ≤ a) ∧ cells + s.heap.size = H.size ∧ slots ≤ 400 * (H.size - s.heap.size)
def yY (b L : Nat) (xs : Nat → Int32) (pc : Nat) (lv : List (Nat × Value)) (st : List Value) (σ τ : xS) : Prop :=
  ∀ (p : Program) (l : Launch) (e : Env) (s : State) (m : MethodId) (below : List Frame) (meth : Method) (c : Code) (G : xG), lw_At p s m meth c b L xs → xK G s → ∀ (H : Heap) (locs : List Loc) (cells slots : Nat), yE s G σ τ H locs cells slots → ∀ (ls : Array Slot), lv_has ls 4 lv →
    W p l e room_1 s m #[Value.ref b] below meth c H locs cells slots (lw_Z below #[Value.ref b] s) (F0 m pc ls st)
theorem y_iconst {b L : Nat} {xs : Nat → Int32} {pc : Nat} {lv : List (Nat × Value)} {st : List Value} {σ τ : xS} {n : Int} {v : Int32} (hd : decode code pc = .ok (.iconst n, 1)) (hv : Int32.ofInt n = v) (k : yY b L xs (pc + 1) lv (.int v :: st) σ τ) : yY b L xs pc lv (st) σ τ := fun p l e s m below meth c G C hK H locs cells slots E ls hl => lv_iconst C.1 C.2.1 hd hv (k p l e s m below meth c G C hK H locs cells slots E ls hl)
theorem y_bipush {b L : Nat} {xs : Nat → Int32} {pc : Nat} {lv : List (Nat × Value)} {st : List Value} {σ τ : xS} {n : Int} {v : Int32} (hd : decode code pc = .ok (.bipush n, 2)) (hv : (Int8.ofInt n).toInt32 = v) (k : yY b L xs (pc + 2) lv (.int v :: st) σ τ) : yY b L xs pc lv (st) σ τ := fun p l e s m below meth c G C hK H locs cells slots E ls hl => lv_bipush C.1 C.2.1 hd hv (k p l e s m below meth c G C hK H locs cells slots E ls hl)
theorem y_iadd {b L : Nat} {xs : Nat → Int32} {pc : Nat} {lv : List (Nat × Value)} {st : List Value} {σ τ : xS} {x y : Int32} (hd : decode code pc = .ok (.iadd, 1))  (k : yY b L xs (pc + 1) lv (.int (x + y) :: st) σ τ) : yY b L xs pc lv (.int y :: .int x :: st) σ τ := fun p l e s m below meth c G C hK H locs cells slots E ls hl => lv_iadd C.1 C.2.1 hd  (k p l e s m below meth c G C hK H locs cells slots E ls hl)
theorem y_isub {b L : Nat} {xs : Nat → Int32} {pc : Nat} {lv : List (Nat × Value)} {st : List Value} {σ τ : xS} {x y : Int32} (hd : decode code pc = .ok (.isub, 1))  (k : yY b L xs (pc + 1) lv (.int (x - y) :: st) σ τ) : yY b L xs pc lv (.int y :: .int x :: st) σ τ := fun p l e s m below meth c G C hK H locs cells slots E ls hl => lv_isub C.1 C.2.1 hd  (k p l e s m below meth c G C hK H locs cells slots E ls hl)
theorem y_iand {b L : Nat} {xs : Nat → Int32} {pc : Nat} {lv : List (Nat × Value)} {st : List Value} {σ τ : xS} {x y : Int32} (hd : decode code pc = .ok (.iand, 1))  (k : yY b L xs (pc + 1) lv (.int (x &&& y) :: st) σ τ) : yY b L xs pc lv (.int y :: .int x :: st) σ τ := fun p l e s m below meth c G C hK H locs cells slots E ls hl => lv_iand C.1 C.2.1 hd  (k p l e s m below meth c G C hK H locs cells slots E ls hl)
theorem y_lcmp {b L : Nat} {xs : Nat → Int32} {pc : Nat} {lv : List (Nat × Value)} {st : List Value} {σ τ : xS} {x y : Int64} (hd : decode code pc = .ok (.lcmp, 1))  (k : yY b L xs (pc + 1) lv (.int (lg_cmp x y) :: st) σ τ) : yY b L xs pc lv (.long y :: .long x :: st) σ τ := fun p l e s m below meth c G C hK H locs cells slots E ls hl => W.lcmp C.1 C.2.1 hd  (k p l e s m below meth c G C hK H locs cells slots E ls hl)
theorem y_dup {b L : Nat} {xs : Nat → Int32} {pc : Nat} {lv : List (Nat × Value)} {st : List Value} {σ τ : xS} {va : Value} (hd : decode code pc = .ok (.dup, 1)) (hva : va.category = 1) (k : yY b L xs (pc + 1) lv (va :: va :: st) σ τ) : yY b L xs pc lv (va :: st) σ τ := fun p l e s m below meth c G C hK H locs cells slots E ls hl => lv_dup C.1 C.2.1 hd hva (k p l e s m below meth c G C hK H locs cells slots E ls hl)
theorem y_iload_n {b L : Nat} {xs : Nat → Int32} {pc : Nat} {lv : List (Nat × Value)} {st : List Value} {σ τ : xS} {k : Fin 4} {i : Nat} {x : Int32} (hd : decode code pc = .ok (.iload_n k, 1)) (hi : (k : Nat) = i) (j : Nat) (hj : lv[j]? = some (i, .int x)) (kk : yY b L xs (pc + 1) lv (.int x :: st) σ τ) : yY b L xs pc lv st σ τ := fun p l e s m below meth c G C hK H locs cells slots E ls hl => lv_iload_n C.1 C.2.1 hd hi (lv_at hl j hj) (kk p l e s m below meth c G C hK H locs cells slots E ls hl)
theorem y_aload_n {b L : Nat} {xs : Nat → Int32} {pc : Nat} {lv : List (Nat × Value)} {st : List Value} {σ τ : xS} {k : Fin 4} {i : Nat} {x : Nat} (hd : decode code pc = .ok (.aload_n k, 1)) (hi : (k : Nat) = i) (j : Nat) (hj : lv[j]? = some (i, .ref x)) (kk : yY b L xs (pc + 1) lv (.ref x :: st) σ τ) : yY b L xs pc lv st σ τ := fun p l e s m below meth c G C hK H locs cells slots E ls hl => lv_aload_n C.1 C.2.1 hd hi (lv_at hl j hj) (kk p l e s m below meth c G C hK H locs cells slots E ls hl)
theorem y_istore_n {b L : Nat} {xs : Nat → Int32} {pc : Nat} {lv : List (Nat × Value)} {st : List Value} {σ τ : xS} {k : Fin 4} {i : Nat} {x : Int32} (lv2 : List (Nat × Value)) (hd : decode code pc = .ok (.istore_n k, 1)) (hi : (k : Nat) = i) (hn : i < 4) (hl2 : (i, Value.int x) :: lv.filter (fun q => !(q.1 == i) && !(q.1 + 1 == i && q.2.category == 2)) = lv2) (kk : yY b L xs (pc + 1) lv2 st σ τ) : yY b L xs pc lv (Value.int x :: st) σ τ := fun p l e s m below meth c G C hK H locs cells slots E ls hl => lv_istore_n C.1 C.2.1 hd hi hl hn hl2 (fun ls hl => kk p l e s m below meth c G C hK H locs cells slots E ls hl)
theorem y_astore_n {b L : Nat} {xs : Nat → Int32} {pc : Nat} {lv : List (Nat × Value)} {st : List Value} {σ τ : xS} {k : Fin 4} {i : Nat} {x : Nat} (lv2 : List (Nat × Value)) (hd : decode code pc = .ok (.astore_n k, 1)) (hi : (k : Nat) = i) (hn : i < 4) (hl2 : (i, Value.ref x) :: lv.filter (fun q => !(q.1 == i) && !(q.1 + 1 == i && q.2.category == 2)) = lv2) (kk : yY b L xs (pc + 1) lv2 st σ τ) : yY b L xs pc lv (Value.ref x :: st) σ τ := fun p l e s m below meth c G C hK H locs cells slots E ls hl => lv_astore_n C.1 C.2.1 hd hi hl hn hl2 (fun ls hl => kk p l e s m below meth c G C hK H locs cells slots E ls hl)
theorem y_iinc {b L : Nat} {xs : Nat → Int32} {pc : Nat} {lv : List (Nat × Value)} {st : List Value} {σ τ : xS} {i : Nat} {n : Int} {x v : Int32} (lv2 : List (Nat × Value)) (hd : decode code pc = .ok (.iinc i n, 3)) (j : Nat) (hj : lv[j]? = some (i, .int x)) (hv : x + Int32.ofInt n = v) (hn : i < 4) (hl2 : (i, Value.int v) :: lv.filter (fun q => !(q.1 == i) && !(q.1 + 1 == i && q.2.category == 2)) = lv2) (kk : yY b L xs (pc + 3) lv2 st σ τ) : yY b L xs pc lv st σ τ := fun p l e s m below meth c G C hK H locs cells slots E ls hl => lv_iinc C.1 C.2.1 hd hl hj hv hn hl2 (fun ls hl => kk p l e s m below meth c G C hK H locs cells slots E ls hl)
theorem y_icmp_gt {b L : Nat} {xs : Nat → Int32} {pc : Nat} {lv : List (Nat × Value)} {st : List Value} {σ τ : xS} {x y : Int32} {off : Int} (tgt : Nat) (hd : decode code pc = .ok (.if_icmp .gt off, 3)) (ht : (pc : Int) + off = (tgt : Int)) (kt : y < x → yY b L xs tgt lv st σ τ) (kf : ¬ y < x → yY b L xs (pc + 3) lv st σ τ) : yY b L xs pc lv (.int y :: .int x :: st) σ τ := fun p l e s m below meth c G C hK H locs cells slots E ls hl => lv_icmp_gt C.1 C.2.1 hd ht (fun h => kt h p l e s m below meth c G C hK H locs cells slots E ls hl) (fun h => kf h p l e s m below meth c G C hK H locs cells slots E ls hl)
theorem y_icmp_eq {b L : Nat} {xs : Nat → Int32} {pc : Nat} {lv : List (Nat × Value)} {st : List Value} {σ τ : xS} {x y : Int32} {off : Int} (tgt : Nat) (hd : decode code pc = .ok (.if_icmp .eq off, 3)) (ht : (pc : Int) + off = (tgt : Int)) (kt : x = y → yY b L xs tgt lv st σ τ) (kf : ¬ x = y → yY b L xs (pc + 3) lv st σ τ) : yY b L xs pc lv (.int y :: .int x :: st) σ τ := fun p l e s m below meth c G C hK H locs cells slots E ls hl => lv_icmp_eq C.1 C.2.1 hd ht (fun h => kt h p l e s m below meth c G C hK H locs cells slots E ls hl) (fun h => kf h p l e s m below meth c G C hK H locs cells slots E ls hl)
theorem y_if_eq {b L : Nat} {xs : Nat → Int32} {pc : Nat} {lv : List (Nat × Value)} {st : List Value} {σ τ : xS} {x : Int32} {off : Int} (tgt : Nat) (hd : decode code pc = .ok (.ifCond .eq off, 3)) (ht : (pc : Int) + off = (tgt : Int)) (kt : x = 0 → yY b L xs tgt lv st σ τ) (kf : ¬ x = 0 → yY b L xs (pc + 3) lv st σ τ) : yY b L xs pc lv (.int x :: st) σ τ := fun p l e s m below meth c G C hK H locs cells slots E ls hl => lv_if_eq C.1 C.2.1 hd ht (fun h => kt h p l e s m below meth c G C hK H locs cells slots E ls hl) (fun h => kf h p l e s m below meth c G C hK H locs cells slots E ls hl)
theorem y_goto {b L : Nat} {xs : Nat → Int32} {pc : Nat} {lv : List (Nat × Value)} {st : List Value} {σ τ : xS} {off : Int} (tgt : Nat) (hd : decode code pc = .ok (.goto off, 3)) (ht : (pc : Int) + off = (tgt : Int)) (k : yY b L xs tgt lv st σ τ) : yY b L xs pc lv st σ τ := fun p l e s m below meth c G C hK H locs cells slots E ls hl => lv_goto C.1 C.2.1 hd ht (k p l e s m below meth c G C hK H locs cells slots E ls hl)
theorem y_tableIn {b L : Nat} {xs : Nat → Int32} {pc : Nat} {lv : List (Nat × Value)} {st : List Value} {σ τ : xS} {dflt lo hi : Int} {offs : Array Int} {len : Nat} {x : Int32} {off : Int} (tgt : Nat) (hd : decode code pc = .ok (.tableswitch dflt lo hi offs, len)) (h1 : ¬ x.toInt < lo) (h2 : ¬ hi < x.toInt) (ho : offs[(x.toInt - lo).toNat]? = some off) (ht : (pc : Int) + off = (tgt : Int)) (k : yY b L xs tgt lv st σ τ) : yY b L xs pc lv (.int x :: st) σ τ := fun p l e s m below meth c G C hK H locs cells slots E ls hl => lv_tableIn C.1 C.2.1 hd h1 h2 ho ht (k p l e s m below meth c G C hK H locs cells slots E ls hl)
theorem y_tableOut {b L : Nat} {xs : Nat → Int32} {pc : Nat} {lv : List (Nat × Value)} {st : List Value} {σ τ : xS} {dflt lo hi : Int} {offs : Array Int} {len : Nat} {x : Int32} (tgt : Nat) (hd : decode code pc = .ok (.tableswitch dflt lo hi offs, len)) (h : x.toInt < lo ∨ hi < x.toInt) (ht : (pc : Int) + dflt = (tgt : Int)) (k : yY b L xs tgt lv st σ τ) : yY b L xs pc lv (.int x :: st) σ τ := fun p l e s m below meth c G C hK H locs cells slots E ls hl => lv_tableOut C.1 C.2.1 hd h ht (k p l e s m below meth c G C hK H locs cells slots E ls hl)
theorem y_sub {b L : Nat} {xs : Nat → Int32} {pc : Nat} {lv : List (Nat × Value)} {st : List Value} {σ τ : xS} {lv2 : List (Nat × Value)} (ks : List Nat) (h : lv_pick lv ks = lv2) (k : yY b L xs pc lv2 st σ τ) : yY b L xs pc lv st σ τ := fun p l e s m below meth c G C hK H locs cells slots E ls hl => k p l e s m below meth c G C hK H locs cells slots E ls (lv_sub hl ks h)
theorem y_slen {b L : Nat} {xs : Nat → Int32} {pc : Nat} {lv : List (Nat × Value)} {st : List Value} {σ τ : xS} (hd : decode code pc = .ok (.arraylength, 1)) (k : yY b L xs (pc + 1) lv (.int (nI L) :: st) σ τ) : yY b L xs pc lv (.ref b :: st) σ τ := fun p l e s m below meth c G C hK H locs cells slots E ls hl => va_slen C.1 C.2.1 C.2.2.2.2.2.2.1 C.2.2.2.2.2.2.2.1 (Nat.not_le.mpr C.2.2.2.2.2.2.2.1) E.2.2.2.2.1 hd (k p l e s m below meth c G C hK H locs cells slots E ls hl)
theorem y_sld {b L : Nat} {xs : Nat → Int32} {pc : Nat} {lv : List (Nat × Value)} {st : List Value} {σ τ : xS} {i : Int32} (hin : vp_in i L) (hd : decode code pc = .ok (.iaload, 1)) (k : yY b L xs (pc + 1) lv (.int (xs i.toNatClampNeg) :: st) σ τ) : yY b L xs pc lv (.int i :: .ref b :: st) σ τ := fun p l e s m below meth c G C hK H locs cells slots E ls hl => va_sld C.1 C.2.1 C.2.2.2.2.2.2.1 C.2.2.2.2.2.2.2.1 (Nat.not_le.mpr C.2.2.2.2.2.2.2.1) E.2.2.2.2.1 hin hd (k p l e s m below meth c G C hK H locs cells slots E ls hl)
theorem y_ret {b L : Nat} {xs : Nat → Int32} {pc : Nat} {lv : List (Nat × Value)} {σ τ : xS} (hd : decode code pc = .ok (.ireturn, 1)) : yY b L xs pc lv [.int 1] σ τ := by
  intro p l e s m below meth c G C hK H locs cells slots E ls hl
  obtain ⟨⟨hxr, hn, hm, hB1, hnm2⟩, hxt, hdj, hmt, hS, hd1, hd2, hc1, hs1⟩ := E
  have hm' : xh_m σ = s.heap.size + 18000 := hm
  refine va_forget (fun q hq => hS.2.2 q hq) ?_
  refine W.widen (k := 600000) (n := 7302250) (by omega) (by omega) ?_
  exact lw_ret C.1 C.2.1 C.2.2.1 C.2.2.2.2.2.2.2.2.1 hd
theorem y_newC {b L : Nat} {xs : Nat → Int32} {pc : Nat} {lv : List (Nat × Value)} {st : List Value} {σ τ : xS} {idx : Nat} (hd : decode code pc = .ok (.new idx, 3)) (h1 : Cond.classLink R_law idx (xf_C 6) ∈ lw_tbl) (h2 : Cond.instantiable (xf_C 6) (xf_N 6) ∈ xTb) (h3 : Cond.initialized (xf_C 6) ∈ xTb) (hroom : xh_n σ < xh_m σ) (kk : yY b L xs (pc + 3) lv (.ref (xh_n σ) :: st) (xs_new σ 6) τ) : yY b L xs pc lv st σ τ := by
  intro p l e s m below meth c G C hK H locs cells slots E ls hl
  have C0 := C
  obtain ⟨hx, hb, hr, hml, hown, hts, hX, hbl, hlocks, hgv⟩ := C
  have E0 := E
  obtain ⟨⟨hxr, hn, hm, hB1, hnm2⟩, hxt, hdj, hmt, hS, hd1, hd2, hc1, hs1⟩ := E
  have hm2 : xh_m σ = s.heap.size + 18000 := hm
  have hB2 : s.heap.size ≤ xh_n σ := hB1
  have hS1 := hS.1
  have hci : 6 < 8 := by decide
  have hKn := hK.1.1 6 _ (xf_cl hci)
  have tb : ∀ w ∈ xTb, w ∈ lw_tbl := fun w h => (List.mem_filter.mp h).1
  have hin : ∀ w ∈ u_ws (xf_C 6) (xf_T 6) (xf_N 6), w ∈ lw_tbl := fun w h => tb w (xf_in hci w h)
  have hN : xf_N 6 ≤ 64 := by decide
  have hRc : room_1.cells = 600000 := rfl
  have hRs : room_1.slots = 7302250 := rfl
  refine W.newcK hx hb hown (hts _ h1) (hts _ (tb _ h2)) (hts _ (tb _ h3)) rfl hd (by omega) (by omega) hKn.2.1 hn fun H2 kC hkC e1 z1 o1 => ?_
  have hfr : ∀ a, xh_k σ a ≠ 0 → a < xh_n σ := fun a ha => by rw [← hn]; exact hxr.2.2.2.2 a ha
  have hfrt : ∀ a, xh_k τ a ≠ 0 → a < xh_n σ := fun a ha => by rw [← hn]; exact hxt.2.2.2.2 a ha
  have hnew : xr G (xs_new σ 6) H2 := by
    refine xr_push (σ := σ) hxr hn (by omega) (fun q h => o1 q (by omega)) (kd := 6 + 1) (by omega) rfl (fun _ _ => rfl) (fun cj j a ha _ _ => ?_) (fun _ _ _ => rfl) (fun _ _ _ => rfl) (fun cj hcj h8 => ?_) (fun t ht _ => by omega) (fun t ht _ => by omega)
    · unfold xf_v
      show (if _ then va_rf (if a = xh_n σ then none else _) else if _ then Value.long (if a = xh_n σ then 0 else _) else Value.int (if a = xh_n σ then 0 else _)) = _
      have ha2 : ¬ a = xh_n σ := ha
      rw [if_neg ha2, if_neg ha2, if_neg ha2]
    · have : cj = 6 := by omega
      subst this
      exact (u_born (xf_ty 6) hts hin hKn hkC e1 (xf_tyok hci)).to (fun j hj => xf_dv (σ := σ) hci hj)
  have hold : xr G τ H2 := xr_kept hxt (by omega) (fun a ha => o1 a (hfrt a ha))
  have hup : ∀ (f : Nat → Nat) (a : Nat), va_up f (xh_n σ) (6 + 1) a ≠ 0 → f a ≠ 0 ∨ a = xh_n σ := fun f a h => by
    by_cases z : a = xh_n σ
    · exact Or.inr z
    · refine Or.inl ?_; simpa [va_up, z] using h
  have hup2 : ∀ (f : Nat → Nat) (a : Nat), a ≠ xh_n σ → va_up f (xh_n σ) (6 + 1) a = f a := fun f a h => by simp [va_up, h]
  refine kk p l e s m below meth c G C0 hK H2 locs (cells + 1) (slots + xf_N 6) ⟨⟨hnew, z1, hm, Nat.le_succ_of_le hB1, ?_⟩, hold, ?_, hmt, ⟨by omega, fun q h4 h5 => (o1 q (by omega)).trans (hS.2.1 q h4 h5), hS.2.2⟩, ?_, ?_, by omega, by omega⟩ ls hl
  · show xh_n σ + 1 ≤ xh_m σ
    omega
  · intro a ha
    rcases hup _ a ha with h | h
    · exact hdj a h
    · subst h
      exact Classical.byContradiction fun z => by have := hfrt _ z; omega
  · intro a ha
    rcases hup _ a ha with h | h
    · exact hd1 a h
    · omega
  · exact hd2
theorem y_newM {b L : Nat} {xs : Nat → Int32} {pc : Nat} {lv : List (Nat × Value)} {st : List Value} {σ τ : xS} {idx : Nat} (hd : decode code pc = .ok (.new idx, 3)) (h1 : Cond.classLink R_law idx (xf_C 7) ∈ lw_tbl) (h2 : Cond.instantiable (xf_C 7) (xf_N 7) ∈ xTb) (h3 : Cond.initialized (xf_C 7) ∈ xTb) (hroom : xh_n σ < xh_m σ) (kk : yY b L xs (pc + 3) lv (.ref (xh_n σ) :: st) (yN σ (xh_n σ + 1)) (xs_new (yN τ (xh_n σ)) 7)) : yY b L xs pc lv st σ τ := by
  intro p l e s m below meth c G C hK H locs cells slots E ls hl
  have C0 := C
  obtain ⟨hx, hb, hr, hml, hown, hts, hX, hbl, hlocks, hgv⟩ := C
  have E0 := E
  obtain ⟨⟨hxr, hn, hm, hB1, hnm2⟩, hxt, hdj, hmt, hS, hd1, hd2, hc1, hs1⟩ := E
  have hm2 : xh_m σ = s.heap.size + 18000 := hm
  have hB2 : s.heap.size ≤ xh_n σ := hB1
  have hS1 := hS.1
  have hci : 7 < 8 := by decide
  have hKn := hK.1.1 7 _ (xf_cl hci)
  have tb : ∀ w ∈ xTb, w ∈ lw_tbl := fun w h => (List.mem_filter.mp h).1
  have hin : ∀ w ∈ u_ws (xf_C 7) (xf_T 7) (xf_N 7), w ∈ lw_tbl := fun w h => tb w (xf_in hci w h)
  have hN : xf_N 7 ≤ 64 := by decide
  have hRc : room_1.cells = 600000 := rfl
  have hRs : room_1.slots = 7302250 := rfl
  refine W.newcK hx hb hown (hts _ h1) (hts _ (tb _ h2)) (hts _ (tb _ h3)) rfl hd (by omega) (by omega) hKn.2.1 hn fun H2 kC hkC e1 z1 o1 => ?_
  have hfr : ∀ a, xh_k σ a ≠ 0 → a < xh_n σ := fun a ha => by rw [← hn]; exact hxr.2.2.2.2 a ha
  have hfrt : ∀ a, xh_k τ a ≠ 0 → a < xh_n σ := fun a ha => by rw [← hn]; exact hxt.2.2.2.2 a ha
  have hnew : xr G (xs_new (yN τ (xh_n σ)) 7) H2 := by
    refine xr_push (σ := (yN τ (xh_n σ))) (xr_n hxt) hn (by omega) (fun q h => o1 q (by omega)) (kd := 7 + 1) (by omega) rfl (fun _ _ => rfl) (fun cj j a ha _ _ => ?_) (fun _ _ _ => rfl) (fun _ _ _ => rfl) (fun cj hcj h8 => ?_) (fun t ht _ => by omega) (fun t ht _ => by omega)
    · unfold xf_v
      show (if _ then va_rf (if a = xh_n σ then none else _) else if _ then Value.long (if a = xh_n σ then 0 else _) else Value.int (if a = xh_n σ then 0 else _)) = _
      have ha2 : ¬ a = xh_n σ := ha
      rw [if_neg ha2, if_neg ha2, if_neg ha2]
    · have : cj = 7 := by omega
      subst this
      exact (u_born (xf_ty 7) hts hin hKn hkC e1 (xf_tyok hci)).to (fun j hj => xf_dv (σ := (yN τ (xh_n σ))) hci hj)
  have hold : xr G σ H2 := xr_kept hxr (by omega) (fun a ha => o1 a (hfr a ha))
  have hup : ∀ (f : Nat → Nat) (a : Nat), va_up f (xh_n σ) (7 + 1) a ≠ 0 → f a ≠ 0 ∨ a = xh_n σ := fun f a h => by
    by_cases z : a = xh_n σ
    · exact Or.inr z
    · refine Or.inl ?_; simpa [va_up, z] using h
  have hup2 : ∀ (f : Nat → Nat) (a : Nat), a ≠ xh_n σ → va_up f (xh_n σ) (7 + 1) a = f a := fun f a h => by simp [va_up, h]
  refine kk p l e s m below meth c G C0 hK H2 locs (cells + 1) (slots + xf_N 7) ⟨⟨hold, z1, hm, Nat.le_succ_of_le hB1, ?_⟩, hnew, ?_, hmt, ⟨by omega, fun q h4 h5 => (o1 q (by omega)).trans (hS.2.1 q h4 h5), hS.2.2⟩, ?_, ?_, by omega, by omega⟩ ls hl
  · show xh_n σ + 1 ≤ xh_m σ
    omega
  · intro a ha
    show va_up (xh_k τ) (xh_n σ) (7 + 1) a = 0
    rw [hup2 _ a (fun z => by have := hfr a ha; omega)]
    exact hdj a ha
  · exact hd1
  · intro a ha
    rcases hup _ a ha with h | h
    · exact hd2 a h
    · omega
theorem y_good {M2 : xM} (h : Cond.code (xm_y M2) (xm_c M2) (xm_n M2) (xm_r M2) ∈ xTb) : GoodIn lw_tbl (xW M2) := by
  intro w hw
  rcases List.mem_cons.mp hw with rfl | hw
  · exact ⟨(List.mem_filter.mp h).1, good_of_word (xTb_good _ h)⟩
  · exact ⟨(List.mem_filter.mp hw).1, good_of_word (xTb_good _ hw)⟩
theorem y_backC {b L : Nat} {xs : Nat → Int32} {pc : Nat} {lv : List (Nat × Value)} {st : List Value} {σ τ : xS} {st0 av : List Value} {Q2 : Option Value → xS → Prop}
    (hrun : ∀ (p : Program) (l : Launch) (e : Env) (s : State) (m : MethodId) (below : List Frame) (meth : Method) (c : Code) (G : xG), lw_At p s m meth c b L xs → xK G s → ∀ (H : Heap) (locs : List Loc) (cells slots : Nat), yE s G σ τ H locs cells slots → xtot s.heap + slots = xtot H → ∀ (ls : Array Slot), lv_has ls 4 lv →
      va_Run p l e room_1 s m #[Value.ref b] below meth c H locs cells slots (s.heap.size + 18000 - xh_n σ) (xtot s.heap + 7200000 - xtot H) (F0 m pc ls st0) st (xQ (s.heap.size, xtot s.heap) G (xA σ) Q2 av.toArray) (xA σ))
    (kk : ∀ (v : Option Value) (σ2 : xS), Q2 v σ2 → yY b L xs (pc + 3) lv (v.toList ++ st) σ2 τ) : yY b L xs pc lv st0 σ τ := by
  intro p l e s m below meth c G C hK H locs cells slots E ls hl
  have C0 := C
  obtain ⟨hx, hb, hr, hml, hown, hts, hX, hbl, hlocks, hgv⟩ := C
  have E0 := E
  obtain ⟨⟨hxr, hn, hm, hB1, hnm2⟩, hxt, hdj, hmt, hS, hd1, hd2, hc1, hs1⟩ := E
  have hm2 : xh_m σ = s.heap.size + 18000 := hm
  have hB2 : s.heap.size ≤ xh_n σ := hB1
  have hS1 := hS.1
  refine xw_used fun u1 u2 => ?_
  refine xw_tight (k := cells) (n := xtot H - xtot s.heap) (by omega) (by omega) ?_
  have hr := hrun p l e s m below meth c G C0 hK H locs cells (xtot H - xtot s.heap) ⟨⟨hxr, hn, hm, hB1, hnm2⟩, hxt, hdj, hmt, hS, hd1, hd2, hc1, by omega⟩ (by omega) ls hl
  intro T hT X
  obtain ⟨v, st₀, t, T2, L2, h0, X2, hL, e1, e2, ⟨r, σ2, hv, hq, ⟨gxr, gn, gm, gB1, gnm2⟩, gt, gd, gF⟩, stp⟩ := hr T hT X
  cases hv
  have gF1 := gF.1
  rw [h0] at gF1
  have gm2 : xh_m σ2 = s.heap.size + 18000 := gm
  have hfr : ∀ a, xh_k σ a ≠ 0 → a < xh_n σ := fun a ha => by rw [← hn]; exact hxr.2.2.2.2 a ha
  have hfrt : ∀ a, xh_k τ a ≠ 0 → a < xh_n σ := fun a ha => by rw [← hn]; exact hxt.2.2.2.2 a ha
  have hAA : ∀ q, xA σ q → s.heap.size ≤ q := by
    intro q h
    rcases h with h | h
    · exact hd1 q h
    · have h3 : xh_n σ ≤ q := h
      omega
  have hkeep : ∀ a, xh_k τ a ≠ 0 → t.heap[a]? = H[a]? := by
    intro a ha
    rw [← h0]
    refine gF.2 a (by rw [h0, hn]; exact hfrt a ha) (fun z => ?_)
    rcases z with z | z
    · exact absurd (hdj a z) ha
    · have h3 : xh_n σ ≤ a := z
      have := hfrt a ha
      omega
  have hk := kk v σ2 hq p l e s m below meth c G C0 hK t.heap (locs ++ L2) (t.heap.size - s.heap.size) (xtot t.heap - xtot s.heap)
    ⟨⟨gxr, gn, gm, gB1, gnm2⟩, xr_kept hxt gF1 hkeep, ?_, hmt, ⟨Nat.le_trans hS1 gF1, fun q h1 h2 => ?_, fun q hq => ?_⟩, ?_, ?_, by omega, ?_⟩ ls hl
  · have hk2 : W p l e room_1 s m #[Value.ref b] below meth c t.heap (locs ++ L2) (cells + (s.heap.size + 18000 - xh_n σ)) (xtot H - xtot s.heap + (xtot s.heap + 7200000 - xtot H)) (lw_Z below #[Value.ref b] s) (F0 m (pc + 3) ls (v.toList ++ st)) := by
      refine xw_used fun w1 w2 => ?_
      exact xw_tight (k := t.heap.size - s.heap.size) (n := xtot t.heap - xtot s.heap) (by omega) (by omega) hk
    obtain ⟨t2, a1, b1⟩ := hk2 T2 e1 X2
    exact ⟨t2, stp t2 a1, b1⟩
  · intro a ha
    rcases gd a ha with z | z
    · exact hdj a z
    · have h3 : xh_n σ ≤ a := z
      exact Classical.byContradiction fun y => by have := hfrt a y; omega
  · have h3 : t.heap[q]? = st₀.heap[q]? := gF.2 q (by rw [h0]; omega) (fun z => h2 (hAA q z))
    rw [h3, h0]
    exact hS.2.1 q h1 h2
  · rcases List.mem_append.mp hq with h | h
    · exact hS.2.2 q h
    · exact hAA _ (hL q h)
  · exact fun a ha => hAA a (gd a ha)
  · exact hd2
  · have hs := xw_sums X2
    rw [e1] at hs
    have gt2 : xtot t.heap ≤ xtot s.heap + 400 * (xh_n σ2 - s.heap.size) := gt
    omega
theorem y_backM {b L : Nat} {xs : Nat → Int32} {pc : Nat} {lv : List (Nat × Value)} {st : List Value} {σ τ : xS} {st0 av : List Value} {Q2 : Option Value → xS → Prop}
    (hrun : ∀ (p : Program) (l : Launch) (e : Env) (s : State) (m : MethodId) (below : List Frame) (meth : Method) (c : Code) (G : xG), lw_At p s m meth c b L xs → xK G s → ∀ (H : Heap) (locs : List Loc) (cells slots : Nat), yE s G σ τ H locs cells slots → xtot s.heap + slots = xtot H → ∀ (ls : Array Slot), lv_has ls 4 lv →
      va_Run p l e room_1 s m #[Value.ref b] below meth c H locs cells slots (s.heap.size + 18000 - xh_n σ) (xtot s.heap + 7200000 - xtot H) (F0 m pc ls st0) st (xQ (s.heap.size, xtot s.heap) G (xA (yN τ (xh_n σ))) Q2 av.toArray) (xA (yN τ (xh_n σ))))
    (kk : ∀ (v : Option Value) (σ2 : xS), Q2 v σ2 → yY b L xs (pc + 3) lv (v.toList ++ st) (yN σ (xh_n σ2)) σ2) : yY b L xs pc lv st0 σ τ := by
  intro p l e s m below meth c G C hK H locs cells slots E ls hl
  have C0 := C
  obtain ⟨hx, hb, hr, hml, hown, hts, hX, hbl, hlocks, hgv⟩ := C
  have E0 := E
  obtain ⟨⟨hxr, hn, hm, hB1, hnm2⟩, hxt, hdj, hmt, hS, hd1, hd2, hc1, hs1⟩ := E
  have hm2 : xh_m σ = s.heap.size + 18000 := hm
  have hB2 : s.heap.size ≤ xh_n σ := hB1
  have hS1 := hS.1
  refine xw_used fun u1 u2 => ?_
  refine xw_tight (k := cells) (n := xtot H - xtot s.heap) (by omega) (by omega) ?_
  have hr := hrun p l e s m below meth c G C0 hK H locs cells (xtot H - xtot s.heap) ⟨⟨hxr, hn, hm, hB1, hnm2⟩, hxt, hdj, hmt, hS, hd1, hd2, hc1, by omega⟩ (by omega) ls hl
  intro T hT X
  obtain ⟨v, st₀, t, T2, L2, h0, X2, hL, e1, e2, ⟨r, σ2, hv, hq, ⟨gxr, gn, gm, gB1, gnm2⟩, gt, gd, gF⟩, stp⟩ := hr T hT X
  cases hv
  have gF1 := gF.1
  rw [h0] at gF1
  have gm2 : xh_m σ2 = s.heap.size + 18000 := gm
  have hfr : ∀ a, xh_k σ a ≠ 0 → a < xh_n σ := fun a ha => by rw [← hn]; exact hxr.2.2.2.2 a ha
  have hfrt : ∀ a, xh_k τ a ≠ 0 → a < xh_n σ := fun a ha => by rw [← hn]; exact hxt.2.2.2.2 a ha
  have hAA : ∀ q, xA (yN τ (xh_n σ)) q → s.heap.size ≤ q := by
    intro q h
    rcases h with h | h
    · exact hd2 q h
    · have h3 : xh_n σ ≤ q := h
      omega
  have hkeep : ∀ a, xh_k σ a ≠ 0 → t.heap[a]? = H[a]? := by
    intro a ha
    rw [← h0]
    refine gF.2 a (by rw [h0, hn]; exact hfr a ha) (fun z => ?_)
    rcases z with z | z
    · exact z (hdj a ha)
    · have h3 : xh_n σ ≤ a := z
      have := hfr a ha
      omega
  have hk := kk v σ2 hq p l e s m below meth c G C0 hK t.heap (locs ++ L2) (t.heap.size - s.heap.size) (xtot t.heap - xtot s.heap)
    ⟨⟨xr_n (xr_kept hxr gF1 hkeep), gn, hm, gB1, by show xh_n σ2 ≤ xh_m σ; omega⟩, gxr, ?_, gm2, ⟨Nat.le_trans hS1 gF1, fun q h1 h2 => ?_, fun q hq => ?_⟩, ?_, ?_, by omega, ?_⟩ ls hl
  · have hk2 : W p l e room_1 s m #[Value.ref b] below meth c t.heap (locs ++ L2) (cells + (s.heap.size + 18000 - xh_n σ)) (xtot H - xtot s.heap + (xtot s.heap + 7200000 - xtot H)) (lw_Z below #[Value.ref b] s) (F0 m (pc + 3) ls (v.toList ++ st)) := by
      refine xw_used fun w1 w2 => ?_
      exact xw_tight (k := t.heap.size - s.heap.size) (n := xtot t.heap - xtot s.heap) (by omega) (by omega) hk
    obtain ⟨t2, a1, b1⟩ := hk2 T2 e1 X2
    exact ⟨t2, stp t2 a1, b1⟩
  · intro a ha
    refine Classical.byContradiction fun y => ?_
    rcases gd a y with z | z
    · exact z (hdj a ha)
    · have h3 : xh_n σ ≤ a := z
      have := hfr a ha
      omega
  · have h3 : t.heap[q]? = st₀.heap[q]? := gF.2 q (by rw [h0]; omega) (fun z => h2 (hAA q z))
    rw [h3, h0]
    exact hS.2.1 q h1 h2
  · rcases List.mem_append.mp hq with h | h
    · exact hS.2.2 q h
    · exact hAA _ (hL q h)
  · exact hd1
  · exact fun a ha => hAA a (gd a ha)
  · have hs := xw_sums X2
    rw [e1] at hs
    have gt2 : xtot t.heap ≤ xtot s.heap + 400 * (xh_n σ2 - s.heap.size) := gt
    omega
theorem y_callVC {b L : Nat} {xs : Nat → Int32} {pc : Nat} {lv : List (Nat × Value)} {st : List Value} {σ τ : xS} {M2 : xM} {As : List Value} {Q2 : Option Value → xS → Prop} {idx n b0 : Nat} {ci : Nat} (hci : ci < 8) (hcl : (xm_y M2).cls = xf_C ci) (hb0 : xh_k σ b0 = ci + 1) (w3 : Cond.selects (xm_y M2).cls (xm_y M2) (xm_y M2) ∈ xTb) (w1 : Cond.methodLink R_law idx (xm_y M2) ∈ lw_tbl) (w2 : Cond.instanceMethod (xm_y M2) ∈ xTb) (hd : decode code pc = .ok (.invokevirtual idx, 3)) (hn1 : As.length = n) (hok : xOk M2 n) (hrm : xm_f M2 + 1 ≤ 19 ∧ 8 + (xm_n M2 + 11) + xm_l M2 ≤ 812) (hst : (st.map fun v => v.category).sum ≤ 8) (ct : xCt M2 (.ref b0 :: As) σ Q2) (kk : ∀ (v : Option Value) (σ2 : xS), Q2 v σ2 → yY b L xs (pc + 3) lv (v.toList ++ st) σ2 τ) : yY b L xs pc lv (As.reverse ++ .ref b0 :: st) σ τ := by
  refine y_backC (av := .ref b0 :: As) (Q2 := Q2) ?_ kk
  intro p l e s m below meth c G C hK H locs cells slots E htight ls hl
  obtain ⟨hx, hb, hr, hml, hown, hts, hX, hbl, hlocks, hgv⟩ := C
  obtain ⟨⟨hxr, hn, hm, hB1, hnm2⟩, hxt, hdj, hmt, hS, hd1, hd2, hc1, hs1⟩ := E
  have hm2 : xh_m σ = s.heap.size + 18000 := hm
  have hB2 : s.heap.size ≤ xh_n σ := hB1
  have hS1 := hS.1
  have tb : ∀ w ∈ xTb, w ∈ lw_tbl := fun w h => (List.mem_filter.mp h).1
  have hsl : xtot H ≤ (s.heap.size, xtot s.heap).2 + 400 * (xh_n σ - (s.heap.size, xtot s.heap).1) := by
    show xtot H ≤ xtot s.heap + 400 * (xh_n σ - s.heap.size)
    omega
  obtain ⟨cell, q1, q2, q3, -⟩ := hxr.1 b0 ci hb0 hci
  exact va_runV (C := (xm_y M2).cls) ⟨hx, hb, hml, hown, hts⟩ (ct l (s.heap.size, xtot s.heap) G (xtot H)) ⟨callB_of n hts (y_good hok.1) rfl rfl rfl (hts _ (tb _ hok.2.1)) (hts _ w1) hok.2.2 ⟨hrm.1, hrm.2⟩, hts _ (tb _ w2), hts _ (tb _ w3)⟩ ⟨xP_blind, ⟨cell, q1, by rw [q3]; rfl, by rw [q2, hcl]; exact (hK.1.1 ci _ (xf_cl hci)).2.1⟩, fun U hU hW => ⟨rfl, ⟨by rw [hU]; exact hxr, by rw [hU]; exact hn, hm, hB1, hnm2⟩, by rw [hU], hsl, va_K.moved hW.alike hK.1, hK.2.warm hW⟩⟩ rfl hn1 hl.1 rfl (lv_room hst) hd ⟨by show cells + (s.heap.size + 18000 - xh_n σ) ≤ 600000; omega, by show slots + (xtot s.heap + 7200000 - xtot H) ≤ 7302250; omega⟩
theorem y_callIC {b L : Nat} {xs : Nat → Int32} {pc : Nat} {lv : List (Nat × Value)} {st : List Value} {σ τ : xS} {M2 : xM} {As : List Value} {Q2 : Option Value → xS → Prop} {idx n b0 : Nat} (hrt : xm_r M2 = none) (hini : (xm_y M2).name = "<init>") (w1 : Cond.methodLink R_law idx (xm_y M2) ∈ lw_tbl) (w2 : Cond.instanceMethod (xm_y M2) ∈ xTb) (hd : decode code pc = .ok (.invokespecial idx, 3)) (hn1 : As.length = n) (hok : xOk M2 n) (hrm : xm_f M2 + 1 ≤ 19 ∧ 8 + (xm_n M2 + 11) + xm_l M2 ≤ 812) (hst : (st.map fun v => v.category).sum ≤ 8) (ct : xCt M2 (.ref b0 :: As) σ Q2) (kk : ∀ (v : Option Value) (σ2 : xS), Q2 v σ2 → yY b L xs (pc + 3) lv (v.toList ++ st) σ2 τ) : yY b L xs pc lv (As.reverse ++ .ref b0 :: st) σ τ := by
  refine y_backC (av := .ref b0 :: As) (Q2 := Q2) ?_ kk
  intro p l e s m below meth c G C hK H locs cells slots E htight ls hl
  obtain ⟨hx, hb, hr, hml, hown, hts, hX, hbl, hlocks, hgv⟩ := C
  obtain ⟨⟨hxr, hn, hm, hB1, hnm2⟩, hxt, hdj, hmt, hS, hd1, hd2, hc1, hs1⟩ := E
  have hm2 : xh_m σ = s.heap.size + 18000 := hm
  have hB2 : s.heap.size ≤ xh_n σ := hB1
  have hS1 := hS.1
  have tb : ∀ w ∈ xTb, w ∈ lw_tbl := fun w h => (List.mem_filter.mp h).1
  have hsl : xtot H ≤ (s.heap.size, xtot s.heap).2 + 400 * (xh_n σ - (s.heap.size, xtot s.heap).1) := by
    show xtot H ≤ xtot s.heap + 400 * (xh_n σ - s.heap.size)
    omega
  exact va_runI ⟨hx, hb, hml, hown, hts⟩ (ct l (s.heap.size, xtot s.heap) G (xtot H)) ⟨callB_of n hts (y_good hok.1) (by unfold xW; rw [hrt]) rfl rfl (hts _ (tb _ hok.2.1)) (hts _ w1) hok.2.2 ⟨hrm.1, hrm.2⟩, hini, hts _ (tb _ w2)⟩ ⟨xP_blind, fun U hU hW => ⟨rfl, ⟨by rw [hU]; exact hxr, by rw [hU]; exact hn, hm, hB1, hnm2⟩, by rw [hU], hsl, va_K.moved hW.alike hK.1, hK.2.warm hW⟩⟩ rfl hn1 hl.1 rfl (lv_room hst) hd ⟨by show cells + (s.heap.size + 18000 - xh_n σ) ≤ 600000; omega, by show slots + (xtot s.heap + 7200000 - xtot H) ≤ 7302250; omega⟩
theorem y_callVM {b L : Nat} {xs : Nat → Int32} {pc : Nat} {lv : List (Nat × Value)} {st : List Value} {σ τ : xS} {M2 : xM} {As : List Value} {Q2 : Option Value → xS → Prop} {idx n b0 : Nat} {ci : Nat} (hci : ci < 8) (hcl : (xm_y M2).cls = xf_C ci) (hb0 : xh_k (yN τ (xh_n σ)) b0 = ci + 1) (w3 : Cond.selects (xm_y M2).cls (xm_y M2) (xm_y M2) ∈ xTb) (w1 : Cond.methodLink R_law idx (xm_y M2) ∈ lw_tbl) (w2 : Cond.instanceMethod (xm_y M2) ∈ xTb) (hd : decode code pc = .ok (.invokevirtual idx, 3)) (hn1 : As.length = n) (hok : xOk M2 n) (hrm : xm_f M2 + 1 ≤ 19 ∧ 8 + (xm_n M2 + 11) + xm_l M2 ≤ 812) (hst : (st.map fun v => v.category).sum ≤ 8) (ct : xCt M2 (.ref b0 :: As) (yN τ (xh_n σ)) Q2) (kk : ∀ (v : Option Value) (σ2 : xS), Q2 v σ2 → yY b L xs (pc + 3) lv (v.toList ++ st) (yN σ (xh_n σ2)) σ2) : yY b L xs pc lv (As.reverse ++ .ref b0 :: st) σ τ := by
  refine y_backM (av := .ref b0 :: As) (Q2 := Q2) ?_ kk
  intro p l e s m below meth c G C hK H locs cells slots E htight ls hl
  obtain ⟨hx, hb, hr, hml, hown, hts, hX, hbl, hlocks, hgv⟩ := C
  obtain ⟨⟨hxr, hn, hm, hB1, hnm2⟩, hxt, hdj, hmt, hS, hd1, hd2, hc1, hs1⟩ := E
  have hm2 : xh_m σ = s.heap.size + 18000 := hm
  have hB2 : s.heap.size ≤ xh_n σ := hB1
  have hS1 := hS.1
  have tb : ∀ w ∈ xTb, w ∈ lw_tbl := fun w h => (List.mem_filter.mp h).1
  have hsl : xtot H ≤ (s.heap.size, xtot s.heap).2 + 400 * (xh_n (yN τ (xh_n σ)) - (s.heap.size, xtot s.heap).1) := by
    show xtot H ≤ xtot s.heap + 400 * (xh_n σ - s.heap.size)
    omega
  obtain ⟨cell, q1, q2, q3, -⟩ := hxt.1 b0 ci hb0 hci
  exact va_runV (C := (xm_y M2).cls) ⟨hx, hb, hml, hown, hts⟩ (ct l (s.heap.size, xtot s.heap) G (xtot H)) ⟨callB_of n hts (y_good hok.1) rfl rfl rfl (hts _ (tb _ hok.2.1)) (hts _ w1) hok.2.2 ⟨hrm.1, hrm.2⟩, hts _ (tb _ w2), hts _ (tb _ w3)⟩ ⟨xP_blind, ⟨cell, q1, by rw [q3]; rfl, by rw [q2, hcl]; exact (hK.1.1 ci _ (xf_cl hci)).2.1⟩, fun U hU hW => ⟨rfl, ⟨by rw [hU]; exact xr_n hxt, by rw [hU]; exact hn, hmt, hB1, by show xh_n σ ≤ xh_m τ; omega⟩, by rw [hU], hsl, va_K.moved hW.alike hK.1, hK.2.warm hW⟩⟩ rfl hn1 hl.1 rfl (lv_room hst) hd ⟨by show cells + (s.heap.size + 18000 - xh_n σ) ≤ 600000; omega, by show slots + (xtot s.heap + 7200000 - xtot H) ≤ 7302250; omega⟩
theorem y_callIM {b L : Nat} {xs : Nat → Int32} {pc : Nat} {lv : List (Nat × Value)} {st : List Value} {σ τ : xS} {M2 : xM} {As : List Value} {Q2 : Option Value → xS → Prop} {idx n b0 : Nat} (hrt : xm_r M2 = none) (hini : (xm_y M2).name = "<init>") (w1 : Cond.methodLink R_law idx (xm_y M2) ∈ lw_tbl) (w2 : Cond.instanceMethod (xm_y M2) ∈ xTb) (hd : decode code pc = .ok (.invokespecial idx, 3)) (hn1 : As.length = n) (hok : xOk M2 n) (hrm : xm_f M2 + 1 ≤ 19 ∧ 8 + (xm_n M2 + 11) + xm_l M2 ≤ 812) (hst : (st.map fun v => v.category).sum ≤ 8) (ct : xCt M2 (.ref b0 :: As) (yN τ (xh_n σ)) Q2) (kk : ∀ (v : Option Value) (σ2 : xS), Q2 v σ2 → yY b L xs (pc + 3) lv (v.toList ++ st) (yN σ (xh_n σ2)) σ2) : yY b L xs pc lv (As.reverse ++ .ref b0 :: st) σ τ := by
  refine y_backM (av := .ref b0 :: As) (Q2 := Q2) ?_ kk
  intro p l e s m below meth c G C hK H locs cells slots E htight ls hl
  obtain ⟨hx, hb, hr, hml, hown, hts, hX, hbl, hlocks, hgv⟩ := C
  obtain ⟨⟨hxr, hn, hm, hB1, hnm2⟩, hxt, hdj, hmt, hS, hd1, hd2, hc1, hs1⟩ := E
  have hm2 : xh_m σ = s.heap.size + 18000 := hm
  have hB2 : s.heap.size ≤ xh_n σ := hB1
  have hS1 := hS.1
  have tb : ∀ w ∈ xTb, w ∈ lw_tbl := fun w h => (List.mem_filter.mp h).1
  have hsl : xtot H ≤ (s.heap.size, xtot s.heap).2 + 400 * (xh_n (yN τ (xh_n σ)) - (s.heap.size, xtot s.heap).1) := by
    show xtot H ≤ xtot s.heap + 400 * (xh_n σ - s.heap.size)
    omega
  exact va_runI ⟨hx, hb, hml, hown, hts⟩ (ct l (s.heap.size, xtot s.heap) G (xtot H)) ⟨callB_of n hts (y_good hok.1) (by unfold xW; rw [hrt]) rfl rfl (hts _ (tb _ hok.2.1)) (hts _ w1) hok.2.2 ⟨hrm.1, hrm.2⟩, hini, hts _ (tb _ w2)⟩ ⟨xP_blind, fun U hU hW => ⟨rfl, ⟨by rw [hU]; exact xr_n hxt, by rw [hU]; exact hn, hmt, hB1, by show xh_n σ ≤ xh_m τ; omega⟩, by rw [hU], hsl, va_K.moved hW.alike hK.1, hK.2.warm hW⟩⟩ rfl hn1 hl.1 rfl (lv_room hst) hd ⟨by show cells + (s.heap.size + 18000 - xh_n σ) ≤ 600000; omega, by show slots + (xtot s.heap + 7200000 - xtot H) ≤ 7302250; omega⟩
theorem xqI.y {b L : Nat} {xs : Nat → Int32} {pc : Nat} {lv : List (Nat × Value)} {st : List Value} {Q2 : Int32 → xS → Prop} {f g : xS → xS} (h : ∀ x σ2, Q2 x σ2 → yY b L xs pc lv (.int x :: st) (f σ2) (g σ2)) : ∀ (v : Option Value) (σ2 : xS), xqI Q2 v σ2 → yY b L xs pc lv (v.toList ++ st) (f σ2) (g σ2) := fun v σ2 ⟨x, e, h2⟩ => by subst e; exact h x σ2 h2
theorem xqL.y {b L : Nat} {xs : Nat → Int32} {pc : Nat} {lv : List (Nat × Value)} {st : List Value} {Q2 : Int64 → xS → Prop} {f g : xS → xS} (h : ∀ x σ2, Q2 x σ2 → yY b L xs pc lv (.long x :: st) (f σ2) (g σ2)) : ∀ (v : Option Value) (σ2 : xS), xqL Q2 v σ2 → yY b L xs pc lv (v.toList ++ st) (f σ2) (g σ2) := fun v σ2 ⟨x, e, h2⟩ => by subst e; exact h x σ2 h2
theorem xqV.y {b L : Nat} {xs : Nat → Int32} {pc : Nat} {lv : List (Nat × Value)} {st : List Value} {Q2 : xS → Prop} {f g : xS → xS} (h : ∀ σ2, Q2 σ2 → yY b L xs pc lv st (f σ2) (g σ2)) : ∀ (v : Option Value) (σ2 : xS), xqV Q2 v σ2 → yY b L xs pc lv (v.toList ++ st) (f σ2) (g σ2) := fun v σ2 ⟨e, h2⟩ => by subst e; exact h σ2 h2
