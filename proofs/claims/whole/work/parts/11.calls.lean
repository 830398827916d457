theorem x_iret {M : xM} {pc : Nat} {lv : List (Nat × Value)} {σ : xS} {Q : Option Value → xS → Prop} {x : Int32} (hd : decode (xm_c M) pc = .ok (.ireturn, 1)) (hrt : xm_r M = some .int) (hq : Q (some (.int x)) σ) : xX M pc lv [.int x] σ Q := by
  intro l B G A p e R s m args below meth c C H locs cells slots L ls hl
  have C0 := C
  obtain ⟨hx, hb, hr, hml, hown, hts, ⟨hK, hNw⟩, hlk, hnm, hA, hR, hB⟩ := C
  have L0 := L
  obtain ⟨⟨hxr, hn, hm, hB1, hnm2⟩, hS, hdom, hc1, hs1⟩ := L
  have hRc : R.cells = B.1 + 18000 - s.heap.size := by rw [hR]
  have hRs : R.slots = B.2 + 7200000 - xtot s.heap := by rw [hR]
  refine xw_used fun u1 u2 => ?_
  refine W.widen (k := R.cells) (n := R.slots) (by rw [hRc]; omega) (by rw [hRs]; omega) ?_
  exact W.iret hx hb (hr.trans hrt) (fun t ht hW => ⟨_, σ, rfl, hq, ⟨by rw [ht]; exact hxr, by rw [ht]; exact hn, hm, hB1, hnm2⟩, by rw [ht]; omega, hdom, hS.F ht⟩) hS.2.2 hd
theorem x_zret {M : xM} {pc : Nat} {lv : List (Nat × Value)} {σ : xS} {Q : Option Value → xS → Prop} {x : Int32} (hd : decode (xm_c M) pc = .ok (.ireturn, 1)) (hrt : xm_r M = some .boolean) (hz : x = 0 ∨ x = 1) (hq : Q (some (.int x)) σ) : xX M pc lv [.int x] σ Q := by
  intro l B G A p e R s m args below meth c C H locs cells slots L ls hl
  have C0 := C
  obtain ⟨hx, hb, hr, hml, hown, hts, ⟨hK, hNw⟩, hlk, hnm, hA, hR, hB⟩ := C
  have L0 := L
  obtain ⟨⟨hxr, hn, hm, hB1, hnm2⟩, hS, hdom, hc1, hs1⟩ := L
  have hRc : R.cells = B.1 + 18000 - s.heap.size := by rw [hR]
  have hRs : R.slots = B.2 + 7200000 - xtot s.heap := by rw [hR]
  refine xw_used fun u1 u2 => ?_
  refine W.widen (k := R.cells) (n := R.slots) (by rw [hRc]; omega) (by rw [hRs]; omega) ?_
  exact W.zret (ty := .boolean) hx hb (hr.trans hrt) (by rcases hz with rfl | rfl <;> rfl) (fun t ht hW => ⟨_, σ, rfl, hq, ⟨by rw [ht]; exact hxr, by rw [ht]; exact hn, hm, hB1, hnm2⟩, by rw [ht]; omega, hdom, hS.F ht⟩) hS.2.2 hd
theorem x_lret {M : xM} {pc : Nat} {lv : List (Nat × Value)} {σ : xS} {Q : Option Value → xS → Prop} {x : Int64} (hd : decode (xm_c M) pc = .ok (.lreturn, 1)) (hrt : xm_r M = some .long) (hq : Q (some (.long x)) σ) : xX M pc lv [.long x] σ Q := by
  intro l B G A p e R s m args below meth c C H locs cells slots L ls hl
  have C0 := C
  obtain ⟨hx, hb, hr, hml, hown, hts, ⟨hK, hNw⟩, hlk, hnm, hA, hR, hB⟩ := C
  have L0 := L
  obtain ⟨⟨hxr, hn, hm, hB1, hnm2⟩, hS, hdom, hc1, hs1⟩ := L
  have hRc : R.cells = B.1 + 18000 - s.heap.size := by rw [hR]
  have hRs : R.slots = B.2 + 7200000 - xtot s.heap := by rw [hR]
  refine xw_used fun u1 u2 => ?_
  refine W.widen (k := R.cells) (n := R.slots) (by rw [hRc]; omega) (by rw [hRs]; omega) ?_
  exact W.lret hx hb (hr.trans hrt) (fun t ht hW => ⟨_, σ, rfl, hq, ⟨by rw [ht]; exact hxr, by rw [ht]; exact hn, hm, hB1, hnm2⟩, by rw [ht]; omega, hdom, hS.F ht⟩) hS.2.2 hd
theorem x_aret {M : xM} {pc : Nat} {lv : List (Nat × Value)} {σ : xS} {Q : Option Value → xS → Prop} {r : Option Nat} (hd : decode (xm_c M) pc = .ok (.areturn, 1)) {C1 : String} (hrt : xm_r M = some (.object C1)) (hq : Q (some (va_rf r)) σ) : xX M pc lv [va_rf r] σ Q := by
  intro l B G A p e R s m args below meth c C H locs cells slots L ls hl
  have C0 := C
  obtain ⟨hx, hb, hr, hml, hown, hts, ⟨hK, hNw⟩, hlk, hnm, hA, hR, hB⟩ := C
  have L0 := L
  obtain ⟨⟨hxr, hn, hm, hB1, hnm2⟩, hS, hdom, hc1, hs1⟩ := L
  have hRc : R.cells = B.1 + 18000 - s.heap.size := by rw [hR]
  have hRs : R.slots = B.2 + 7200000 - xtot s.heap := by rw [hR]
  refine xw_used fun u1 u2 => ?_
  refine W.widen (k := R.cells) (n := R.slots) (by rw [hRc]; omega) (by rw [hRs]; omega) ?_
  exact W.aret hx hb (hr.trans hrt) (Or.inl ⟨_, rfl⟩) (va_rf_or r) (fun t ht hW => ⟨_, σ, rfl, hq, ⟨by rw [ht]; exact hxr, by rw [ht]; exact hn, hm, hB1, hnm2⟩, by rw [ht]; omega, hdom, hS.F ht⟩) hS.2.2 hd
theorem x_vret {M : xM} {pc : Nat} {lv : List (Nat × Value)} {σ : xS} {Q : Option Value → xS → Prop}  (hd : decode (xm_c M) pc = .ok (.return_, 1)) (hrt : xm_r M = none) (hq : Q none σ) : xX M pc lv [] σ Q := by
  intro l B G A p e R s m args below meth c C H locs cells slots L ls hl
  have C0 := C
  obtain ⟨hx, hb, hr, hml, hown, hts, ⟨hK, hNw⟩, hlk, hnm, hA, hR, hB⟩ := C
  have L0 := L
  obtain ⟨⟨hxr, hn, hm, hB1, hnm2⟩, hS, hdom, hc1, hs1⟩ := L
  have hRc : R.cells = B.1 + 18000 - s.heap.size := by rw [hR]
  have hRs : R.slots = B.2 + 7200000 - xtot s.heap := by rw [hR]
  refine xw_used fun u1 u2 => ?_
  refine W.widen (k := R.cells) (n := R.slots) (by rw [hRc]; omega) (by rw [hRs]; omega) ?_
  exact W.vret hx hb (hr.trans hrt) (fun t ht hW => ⟨_, σ, rfl, hq, ⟨by rw [ht]; exact hxr, by rw [ht]; exact hn, hm, hB1, hnm2⟩, by rw [ht]; omega, hdom, hS.F ht⟩) hS.2.2 hd
/-- the entry: a walk from the first instruction is a contract -/
theorem xCt_of {M : xM} {av : List Value} {σ : xS} {Q : Option Value → xS → Prop} (hy : plainName (xm_y M).cls = true) (hlen : (lg_sl av).length ≤ xm_n M) (h : xX M 0 (lv_args 0 av) [] σ Q) : xCt M av σ Q := by
  intro l B G sl
  refine Met.ofW (cc := xm_c M) (maxL := xm_n M) (ret := xm_r M) hy rfl ?_
  intro p e s m args below meth c s₁ Bd hml hv
  obtain ⟨rfl, ⟨hxr, hn, hm, hB1, hnm2⟩, hsl, hsl2, hK⟩ := hv
  have hts := atoms_spec (ws := xW M) Bd.pre
  rw [lg_entry_eq]
  have hl := lv_entry av (n := xm_n M) hlen
  generalize (lg_sl av ++ List.replicate (xm_n M - (lg_sl av).length) Slot.unset).toArray = ls at hl ⊢
  have hR : (headSpec (xW M) (xR B (xm_f M) (xm_l M) (xh_n σ) sl)).room = xR B (xm_f M) (xm_l M) s.heap.size (xtot s.heap) := by
    rw [hn, hsl]; rfl
  have hw := h l B G (xA σ) p e (headSpec (xW M) (xR B (xm_f M) (xm_l M) (xh_n σ) sl)).room s m av.toArray below meth c ⟨Bd.exec, Bd.bytes, Bd.returns, hml, findClass_of_methodNamed Bd.named, hts, hK, Bd.notSynchronized, (name_of_methodNamed Bd.named Bd.method).1, fun q hq => Or.inr (by rw [← hn]; exact hq), hR, by omega⟩
    s.heap [] 0 0 ⟨⟨hxr, hn, hm, hB1, hnm2⟩, va_S.rf, fun a ha => Or.inl ha, by omega, by omega⟩ ls hl
  exact hw
theorem xNw.warm {s U : State} (hW : s.WarmedH U.vm) (h : xNw s) : xNw U := ⟨⟨h.1.1.warmM hW, h.1.2.1.warmM hW, h.1.2.2.1.warmM hW, h.1.2.2.2.warmM hW⟩, fun t ht => (h.2 t ht).moved hW.alike⟩
theorem xNw.same {s U : State} (e : s.vm = U.vm) (h : xNw s) : xNw U := ⟨⟨h.1.1.same rfl e, h.1.2.1.same rfl e, h.1.2.2.1.same rfl e, h.1.2.2.2.same rfl e⟩, fun t ht => (h.2 t ht).moved (by rw [e]; exact Vm.Alike.refl _)⟩
theorem xP_blind {av : List Value} {B : Nat × Nat} {G : xG} {σ : xS} {sl : Nat} : FrameBlind (va_Pc av (xP B G σ sl)) := by
  intro a U g mk h
  obtain ⟨h0, h1, h2, h3, h4, h5⟩ := h
  exact ⟨h0, h1, h2, h3, va_K.moved (u := U) (U := U.calling g mk a) (Vm.Alike.refl U.vm) h4, xNw.same (s := U) (U := U.calling g mk a) rfl h5⟩
theorem xTb_good : ∀ w ∈ xTb, goodWord w = true := fun w h => (List.mem_filter.mp h).2
theorem xGood {M M2 : xM} (h : Cond.code (xm_y M2) (xm_c M2) (xm_n M2) (xm_r M2) ∈ xTb) : GoodIn (xW M) (xW M2) := by
  intro w hw
  rcases List.mem_cons.mp hw with rfl | hw
  · exact ⟨List.mem_cons_of_mem _ h, good_of_word (xTb_good _ h)⟩
  · exact ⟨List.mem_cons_of_mem _ hw, good_of_word (xTb_good _ hw)⟩
/-- a method that may be called: its words, its parameters' number -/
def xOk (M : xM) (n : Nat) : Prop := Cond.code (xm_y M) (xm_c M) (xm_n M) (xm_r M) ∈ xTb ∧ Cond.initialized (xm_y M).cls ∈ xTb ∧ ((xm_y M).cls ≠ "java/lang/invoke/MethodHandle" ∧ (xm_y M).cls ≠ "java/lang/invoke/VarHandle" ∧ (parseMethodDescriptor (xm_y M).desc).map (fun d => d.parameters.length) = some n)
/-- behind a call -/
theorem x_back {M M2 : xM} {pc : Nat} {lv : List (Nat × Value)} {st st0 av : List Value} {σ : xS} {Q Q2 : Option Value → xS → Prop}
    (hrun : ∀ (l : Launch) (B : Nat × Nat) (G : xG) (A : Nat → Prop) (p : Program) (e : Env) (R : Room) (s : State) (m : MethodId) (args : Array Value) (below : List Frame) (meth : Method) (c : Code), xC M B G A p R s m args meth c → ∀ (H : Heap) (locs : List Loc) (cells slots : Nat), xL B G A s σ H locs cells slots → xtot s.heap + slots = xtot H → ∀ (ls : Array Slot), lv_has ls (xm_n M) lv →
      va_Run p l e R s m args below meth c H locs cells slots (B.1 + 18000 - xh_n σ) (B.2 + 7200000 - xtot H) (F0 m pc ls st0) st (xQ B G (xA σ) Q2 av.toArray) (xA σ))
    (kk : ∀ (v : Option Value) (σ2 : xS), Q2 v σ2 → xX M (pc + 3) lv (v.toList ++ st) σ2 Q) : xX M pc lv st0 σ Q := by
  intro l B G A p e R s m args below meth c C H locs cells slots L ls hl
  have C0 := C
  obtain ⟨hx, hb, hr, hml, hown, hts, ⟨hK, hNw⟩, hlk, hnm, hA, hR, hB⟩ := C
  obtain ⟨⟨hxr, hn, hm, hB1, hnm2⟩, hS, hdom, hc1, hs1⟩ := L
  refine xw_used fun u1 u2 => ?_
  refine xw_tight (k := cells) (n := xtot H - xtot s.heap) (by omega) (by omega) ?_
  have L1 : xL B G A s σ H locs cells (xtot H - xtot s.heap) := ⟨⟨hxr, hn, hm, hB1, hnm2⟩, hS, hdom, hc1, by omega⟩
  have hr := hrun l B G A p e R s m args below meth c C0 H locs cells (xtot H - xtot s.heap) L1 (by omega) ls hl
  intro T hT X
  obtain ⟨v, st₀, t, T2, L2, h0, X2, hL, e1, e2, ⟨r, σ2, hv, hq, ⟨gxr, gn, gm, gB1, gnm2⟩, gt, gd, gF⟩, stp⟩ := hr T hT X
  cases hv
  have hAA : ∀ q, xA σ q → A q := by
    intro q h
    rcases h with h | h
    · exact hdom q h
    · exact hA q (by have := hS.1; omega)
  have gF1 := gF.1
  rw [h0] at gF1
  have hk := kk v σ2 hq l B G A p e R s m args below meth c C0 t.heap (locs ++ L2) (t.heap.size - s.heap.size) (xtot t.heap - xtot s.heap)
    ⟨⟨gxr, gn, gm, gB1, gnm2⟩, ⟨Nat.le_trans hS.1 gF1, fun q h1 h2 => ?_, fun q hq => ?_⟩, fun a ha => hAA a (gd a ha), by have := hS.1; omega, ?_⟩ ls hl
  · have hk2 : W p l e R s m args below meth c t.heap (locs ++ L2) (cells + (B.1 + 18000 - xh_n σ)) (xtot H - xtot s.heap + (B.2 + 7200000 - xtot H)) (MQ below (xQ B G A Q) args s R.cells R.slots A) (F0 m (pc + 3) ls (v.toList ++ st)) := by
      refine xw_used fun w1 w2 => ?_
      exact xw_tight (k := t.heap.size - s.heap.size) (n := xtot t.heap - xtot s.heap) (by omega) (by omega) hk
    obtain ⟨t2, a1, b1⟩ := hk2 T2 e1 X2
    exact ⟨t2, stp t2 a1, b1⟩
  · have h3 : t.heap[q]? = st₀.heap[q]? := gF.2 q (by rw [h0]; have := hS.1; omega) (fun z => h2 (hAA q z))
    rw [h3, h0]
    exact hS.2.1 q h1 h2
  · rcases List.mem_append.mp hq with h | h
    · exact hS.2.2 q h
    · exact hAA _ (hL q h)
  · have hs := xw_sums X2
    rw [e1] at hs
    omega

theorem x_callV {M M2 : xM} {pc : Nat} {lv : List (Nat × Value)} {st As : List Value} {σ : xS} {Q Q2 : Option Value → xS → Prop} {idx n : Nat} {b ci : Nat} (hci : ci < 8) (hb0 : xh_k σ b = ci + 1) (hcl : (xm_y M2).cls = xf_C ci) (w1 : Cond.methodLink (xm_y M).cls idx (xm_y M2) ∈ xTb) (w2 : Cond.instanceMethod (xm_y M2) ∈ xTb) (w3 : Cond.selects (xm_y M2).cls (xm_y M2) (xm_y M2) ∈ xTb) (hd : decode (xm_c M) pc = .ok (.invokevirtual idx, 3)) (hn1 : As.length = n) (hok : xOk M2 n) (hrm : xm_f M2 + 1 ≤ xm_f M ∧ 8 + (xm_n M2 + 11) + xm_l M2 ≤ xm_l M) (hst : (st.map fun v => v.category).sum ≤ 8) (ct : xCt M2 (.ref b :: As) σ Q2) (kk : ∀ (v : Option Value) (σ2 : xS), Q2 v σ2 → xX M (pc + 3) lv (v.toList ++ st) σ2 Q) : xX M pc lv (As.reverse ++ .ref b :: st) σ Q := by
  refine x_back (M2 := M2) (av := .ref b :: As) (Q2 := Q2) ?_ kk
  intro l B G A p e R s m args below meth c C H locs cells slots L htight ls hl
  obtain ⟨hx, hb, hr, hml, hown, hts, ⟨hK, hNw⟩, hlk, hnm, hA, hR, hB⟩ := C
  obtain ⟨⟨hxr, hn, hm, hB1, hnm2⟩, hS, hdom, hc1, hs1⟩ := L
  have hS1 := hS.1
  obtain ⟨cell, q1, q2, q3, -⟩ := hxr.1 b ci hb0 hci
  refine va_runV (C := (xm_y M2).cls) ⟨hx, hb, hml, hown, hts⟩ (ct l B G (xtot H)) ⟨callB_of n hts (xGood hok.1) rfl rfl rfl (hts _ (List.mem_cons_of_mem _ hok.2.1)) (hts _ (List.mem_cons_of_mem _ w1)) hok.2.2 (by rw [hR]; exact hrm), hts _ (List.mem_cons_of_mem _ w2), hts _ (List.mem_cons_of_mem _ w3)⟩ ⟨xP_blind, ⟨cell, q1, by rw [q3]; rfl, by rw [q2, hcl]; exact (hK.1 ci _ (xf_cl hci)).2.1⟩, fun U hU hW => ⟨rfl, ⟨by rw [hU]; exact hxr, by rw [hU]; exact hn, hm, hB1, hnm2⟩, by rw [hU], by omega, va_K.moved hW.alike hK, hNw.warm hW⟩⟩ rfl hn1 hl.1 rfl (lv_room hst) hd ⟨by rw [hR]; show cells + (B.1 + 18000 - xh_n σ) ≤ B.1 + 18000 - s.heap.size; omega, by rw [hR]; show slots + (B.2 + 7200000 - xtot H) ≤ B.2 + 7200000 - xtot s.heap; omega⟩
theorem x_callS {M M2 : xM} {pc : Nat} {lv : List (Nat × Value)} {st As : List Value} {σ : xS} {Q Q2 : Option Value → xS → Prop} {idx n : Nat} (w1 : Cond.methodLink (xm_y M).cls idx (xm_y M2) ∈ xTb) (w2 : Cond.static (xm_y M2) ∈ xTb) (hd : decode (xm_c M) pc = .ok (.invokestatic idx, 3)) (hn1 : As.length = n) (hok : xOk M2 n) (hrm : xm_f M2 + 1 ≤ xm_f M ∧ 8 + (xm_n M2 + 11) + xm_l M2 ≤ xm_l M) (hst : (st.map fun v => v.category).sum ≤ 8) (ct : xCt M2 (As) σ Q2) (kk : ∀ (v : Option Value) (σ2 : xS), Q2 v σ2 → xX M (pc + 3) lv (v.toList ++ st) σ2 Q) : xX M pc lv (As.reverse ++ st) σ Q := by
  refine x_back (M2 := M2) (av := As) (Q2 := Q2) ?_ kk
  intro l B G A p e R s m args below meth c C H locs cells slots L htight ls hl
  obtain ⟨hx, hb, hr, hml, hown, hts, ⟨hK, hNw⟩, hlk, hnm, hA, hR, hB⟩ := C
  obtain ⟨⟨hxr, hn, hm, hB1, hnm2⟩, hS, hdom, hc1, hs1⟩ := L
  have hS1 := hS.1
  exact va_runS ⟨hx, hb, hml, hown, hts⟩ (ct l B G (xtot H)) ⟨callB_of n hts (xGood hok.1) rfl rfl rfl (hts _ (List.mem_cons_of_mem _ hok.2.1)) (hts _ (List.mem_cons_of_mem _ w1)) hok.2.2 (by rw [hR]; exact hrm), hts _ (List.mem_cons_of_mem _ w2)⟩ ⟨xP_blind, fun U hU hW => ⟨rfl, ⟨by rw [hU]; exact hxr, by rw [hU]; exact hn, hm, hB1, hnm2⟩, by rw [hU], by omega, va_K.moved hW.alike hK, hNw.warm hW⟩⟩ rfl hn1 hl.1 rfl (lv_room hst) hd ⟨by rw [hR]; show cells + (B.1 + 18000 - xh_n σ) ≤ B.1 + 18000 - s.heap.size; omega, by rw [hR]; show slots + (B.2 + 7200000 - xtot H) ≤ B.2 + 7200000 - xtot s.heap; omega⟩
theorem x_callI {M M2 : xM} {pc : Nat} {lv : List (Nat × Value)} {st As : List Value} {σ : xS} {Q Q2 : Option Value → xS → Prop} {idx n : Nat} {b : Nat} (hrt : xm_r M2 = none) (hini : (xm_y M2).name = "<init>") (w1 : Cond.methodLink (xm_y M).cls idx (xm_y M2) ∈ xTb) (w2 : Cond.instanceMethod (xm_y M2) ∈ xTb) (hd : decode (xm_c M) pc = .ok (.invokespecial idx, 3)) (hn1 : As.length = n) (hok : xOk M2 n) (hrm : xm_f M2 + 1 ≤ xm_f M ∧ 8 + (xm_n M2 + 11) + xm_l M2 ≤ xm_l M) (hst : (st.map fun v => v.category).sum ≤ 8) (ct : xCt M2 (.ref b :: As) σ Q2) (kk : ∀ (v : Option Value) (σ2 : xS), Q2 v σ2 → xX M (pc + 3) lv (v.toList ++ st) σ2 Q) : xX M pc lv (As.reverse ++ .ref b :: st) σ Q := by
  refine x_back (M2 := M2) (av := .ref b :: As) (Q2 := Q2) ?_ kk
  intro l B G A p e R s m args below meth c C H locs cells slots L htight ls hl
  obtain ⟨hx, hb, hr, hml, hown, hts, ⟨hK, hNw⟩, hlk, hnm, hA, hR, hB⟩ := C
  obtain ⟨⟨hxr, hn, hm, hB1, hnm2⟩, hS, hdom, hc1, hs1⟩ := L
  have hS1 := hS.1
  exact va_runI ⟨hx, hb, hml, hown, hts⟩ (ct l B G (xtot H)) ⟨callB_of n hts (xGood hok.1) (by unfold xW; rw [hrt]) rfl rfl (hts _ (List.mem_cons_of_mem _ hok.2.1)) (hts _ (List.mem_cons_of_mem _ w1)) hok.2.2 (by rw [hR]; exact hrm), hini, hts _ (List.mem_cons_of_mem _ w2)⟩ ⟨xP_blind, fun U hU hW => ⟨rfl, ⟨by rw [hU]; exact hxr, by rw [hU]; exact hn, hm, hB1, hnm2⟩, by rw [hU], by omega, va_K.moved hW.alike hK, hNw.warm hW⟩⟩ rfl hn1 hl.1 rfl (lv_room hst) hd ⟨by rw [hR]; show cells + (B.1 + 18000 - xh_n σ) ≤ B.1 + 18000 - s.heap.size; omega, by rw [hR]; show slots + (B.2 + 7200000 - xtot H) ≤ B.2 + 7200000 - xtot s.heap; omega⟩
theorem x_callN {M M2 : xM} {pc : Nat} {lv : List (Nat × Value)} {st As : List Value} {σ : xS} {Q Q2 : Option Value → xS → Prop} {idx n : Nat} {b : Nat} {host : String} (hrt : xm_r M2 = none) (hini : (xm_y M2).name = "<init>") (w1 : ∀ U, xNw U → va_Nw (.methodLinkNest (xm_y M).cls idx (xm_y M2) host) U) (w2 : Cond.instanceMethod (xm_y M2) ∈ xTb) (hd : decode (xm_c M) pc = .ok (.invokespecial idx, 3)) (hn1 : As.length = n) (hok : xOk M2 n) (hrm : xm_f M2 + 1 ≤ xm_f M ∧ 8 + (xm_n M2 + 11) + xm_l M2 ≤ xm_l M) (hst : (st.map fun v => v.category).sum ≤ 8) (ct : xCt M2 (.ref b :: As) σ Q2) (kk : ∀ (v : Option Value) (σ2 : xS), Q2 v σ2 → xX M (pc + 3) lv (v.toList ++ st) σ2 Q) : xX M pc lv (As.reverse ++ .ref b :: st) σ Q := by
  refine x_back (M2 := M2) (av := .ref b :: As) (Q2 := Q2) ?_ kk
  intro l B G A p e R s m args below meth c C H locs cells slots L htight ls hl
  obtain ⟨hx, hb, hr, hml, hown, hts, ⟨hK, hNw⟩, hlk, hnm, hA, hR, hB⟩ := C
  obtain ⟨⟨hxr, hn, hm, hB1, hnm2⟩, hS, hdom, hc1, hs1⟩ := L
  have hS1 := hS.1
  exact va_runIN ⟨hx, hb, hml, hown, hts⟩ (ct l B G (xtot H)) ⟨va_cnB n hts (xGood hok.1) (by unfold xW; rw [hrt]) rfl rfl (w1 s hNw) (hts _ (List.mem_cons_of_mem _ hok.2.1)) hok.2.2 (by rw [hR]; exact hrm), hini, hts _ (List.mem_cons_of_mem _ w2)⟩ ⟨xP_blind, fun U hU hW => ⟨rfl, ⟨by rw [hU]; exact hxr, by rw [hU]; exact hn, hm, hB1, hnm2⟩, by rw [hU], by omega, va_K.moved hW.alike hK, hNw.warm hW⟩⟩ rfl hn1 hl.1 rfl (lv_room hst) hd ⟨by rw [hR]; show cells + (B.1 + 18000 - xh_n σ) ≤ B.1 + 18000 - s.heap.size; omega, by rw [hR]; show slots + (B.2 + 7200000 - xtot H) ≤ B.2 + 7200000 - xtot s.heap; omega⟩
theorem x_objInit {M : xM} {pc : Nat} {lv : List (Nat × Value)} {st : List Value} {σ : xS} {Q : Option Value → xS → Prop} {idx a : Nat} (hd : decode (xm_c M) pc = .ok (.invokespecial idx, 3)) (w1 : Cond.methodLink (xm_y M).cls idx Lib.objectInit ∈ xTb) (w2 : Cond.instanceMethod Lib.objectInit ∈ xTb) (w3 : Cond.code Lib.objectInit ⟨#[0xb1]⟩ 1 none ∈ xTb) (hf : 1 ≤ xm_f M) (hst : (st.map fun v => v.category).sum ≤ 8) (hlo : 20 ≤ xm_l M) (kk : xX M (pc + 3) lv st σ Q) : xX M pc lv (.ref a :: st) σ Q := by
  intro l B G A p e R s m args below meth c C H locs cells slots L ls hl
  have C0 := C
  obtain ⟨hx, hb, hr, hml, hown, hts, ⟨hK, hNw⟩, hlk, hnm, hA, hR, hB⟩ := C
  have L0 := L
  obtain ⟨⟨hxr, hn, hm, hB1, hnm2⟩, hS, hdom, hc1, hs1⟩ := L
  have h8 : 2 * (F0 m pc ls (Value.ref a :: st)).monitorRoom + (st.map fun v => v.category).sum ≤ 8 := lv_room hst
  refine W.objInit hx hb hown (hts _ (List.mem_cons_of_mem _ w1)) (hts _ (List.mem_cons_of_mem _ w2)) (hts _ (List.mem_cons_of_mem _ w3)) rfl (by rw [hml]; exact hl.1) rfl hd (by rw [hR]; exact hf) (by rw [hR]; show _ ≤ xm_l M; omega) (kk l B G A p e R s m args below meth c C0 H locs cells slots L0 ls hl)
-- the ends of contracts, by the sort of the answer
def xqV (Q : xS → Prop) : Option Value → xS → Prop := fun v σ => v = none ∧ Q σ
def xqI (Q : Int32 → xS → Prop) : Option Value → xS → Prop := fun v σ => ∃ x : Int32, v = some (.int x) ∧ Q x σ
def xqL (Q : Int64 → xS → Prop) : Option Value → xS → Prop := fun v σ => ∃ x : Int64, v = some (.long x) ∧ Q x σ
def xqR (Q : Option Nat → xS → Prop) : Option Value → xS → Prop := fun v σ => ∃ r : Option Nat, v = some (va_rf r) ∧ Q r σ
theorem xqV.k {M : xM} {pc : Nat} {lv : List (Nat × Value)} {st : List Value} {Q2 : xS → Prop} {Q : Option Value → xS → Prop} (h : ∀ σ2, Q2 σ2 → xX M pc lv st σ2 Q) : ∀ (v : Option Value) (σ2 : xS), xqV Q2 v σ2 → xX M pc lv (v.toList ++ st) σ2 Q := fun v σ2 ⟨e, h2⟩ => by subst e; exact h σ2 h2
theorem xqI.k {M : xM} {pc : Nat} {lv : List (Nat × Value)} {st : List Value} {Q2 : Int32 → xS → Prop} {Q : Option Value → xS → Prop} (h : ∀ x σ2, Q2 x σ2 → xX M pc lv (.int x :: st) σ2 Q) : ∀ (v : Option Value) (σ2 : xS), xqI Q2 v σ2 → xX M pc lv (v.toList ++ st) σ2 Q := fun v σ2 ⟨x, e, h2⟩ => by subst e; exact h x σ2 h2
theorem xqL.k {M : xM} {pc : Nat} {lv : List (Nat × Value)} {st : List Value} {Q2 : Int64 → xS → Prop} {Q : Option Value → xS → Prop} (h : ∀ x σ2, Q2 x σ2 → xX M pc lv (.long x :: st) σ2 Q) : ∀ (v : Option Value) (σ2 : xS), xqL Q2 v σ2 → xX M pc lv (v.toList ++ st) σ2 Q := fun v σ2 ⟨x, e, h2⟩ => by subst e; exact h x σ2 h2
theorem xqR.k {M : xM} {pc : Nat} {lv : List (Nat × Value)} {st : List Value} {Q2 : Option Nat → xS → Prop} {Q : Option Value → xS → Prop} (h : ∀ x σ2, Q2 x σ2 → xX M pc lv (va_rf x :: st) σ2 Q) : ∀ (v : Option Value) (σ2 : xS), xqR Q2 v σ2 → xX M pc lv (v.toList ++ st) σ2 Q := fun v σ2 ⟨x, e, h2⟩ => by subst e; exact h x σ2 h2
