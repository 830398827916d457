/-! The start: the world of the tables' words, the two made, the loop -/
theorem zq_wT6 : Cond.instantiable (xf_C 6) (xf_N 6) ∈ xTb := xTb_of 11 (by decide +kernel) rfl
theorem zq_wT7 : Cond.instantiable (xf_C 7) (xf_N 7) ∈ xTb := xTb_of 545 (by decide +kernel) rfl
theorem zq_wL7 : Cond.classLink R_law 7 (xf_C 6) ∈ lw_tbl := List.mem_append_right _ (List.mem_of_getElem? (i := 10) (by decide +kernel))
theorem zq_wL10 : Cond.classLink R_law 10 (xf_C 7) ∈ lw_tbl := List.mem_append_right _ (List.mem_of_getElem? (i := 544) (by decide +kernel))
theorem zq_wL9 : Cond.methodLink R_law 9 yX6_init ∈ lw_tbl := List.mem_append_right _ (List.mem_of_getElem? (i := 12) (by decide +kernel))
theorem zq_wL12 : Cond.methodLink R_law 12 yX7_init ∈ lw_tbl := List.mem_append_right _ (List.mem_of_getElem? (i := 546) (by decide +kernel))
theorem zq_wI6 : Cond.instanceMethod yX6_init ∈ xTb := xTb_of 13 (by decide +kernel) rfl
theorem zq_wI7 : Cond.instanceMethod yX7_init ∈ xTb := xTb_of 547 (by decide +kernel) rfl
theorem zq_wO0 : Cond.arrayOver (.object RX3) ∈ lw_tbl := List.mem_append_right _ (List.mem_of_getElem? (i := 19) (by decide +kernel))
theorem zq_wO1 : Cond.arrayOver (.object RX2) ∈ lw_tbl := List.mem_append_right _ (List.mem_of_getElem? (i := 21) (by decide +kernel))
theorem zq_wO2 : Cond.arrayOver (.object RX4) ∈ lw_tbl := List.mem_append_right _ (List.mem_of_getElem? (i := 23) (by decide +kernel))
theorem zq_wO3 : Cond.arrayOver (.object RX5) ∈ lw_tbl := List.mem_append_right _ (List.mem_of_getElem? (i := 25) (by decide +kernel))
theorem zq_wH0 : Cond.methodLinkNest RX6 35 yX0_init RX6 ∈ lw_tbl := List.mem_append_right _ (List.mem_of_getElem? (i := 28) (by decide +kernel))
theorem zq_wH1 : Cond.methodLinkNest RX2 9 yX0_init RX6 ∈ lw_tbl := List.mem_append_right _ (List.mem_of_getElem? (i := 332) (by decide +kernel))
theorem zq_wH2 : Cond.methodLinkNest RX3 9 yX0_init RX6 ∈ lw_tbl := List.mem_append_right _ (List.mem_of_getElem? (i := 118) (by decide +kernel))
theorem zq_wH3 : Cond.methodLinkNest RX5 9 yX0_init RX6 ∈ lw_tbl := List.mem_append_right _ (List.mem_of_getElem? (i := 50) (by decide +kernel))
theorem zq_arrI {s : State} {a : Array Value} (h : (Cond.arrayClass .int).before a s = true) : ∃ cA, ArrOfT s cA .int ∧ va_RA s cA .int := by
  obtain ⟨cA, kA, comp, f1, f2, f3⟩ := Cond.arrayClass_spec h
  exact ⟨cA, fun N z => ⟨(fun k h => by cases h), kA, f2, comp, f3⟩, f1⟩
theorem zq_arrZ {s : State} {a : Array Value} (h : (Cond.arrayClass .boolean).before a s = true) : ∃ cA, ArrOfT s cA .boolean ∧ va_RA s cA .boolean := by
  obtain ⟨cA, kA, comp, f1, f2, f3⟩ := Cond.arrayClass_spec h
  exact ⟨cA, fun N z => ⟨(fun k h => by cases h), kA, f2, comp, f3⟩, f1⟩
theorem zq_arrQ {s : State} {a : Array Value} {C : String} (h : (Cond.arrayOver (.object C)).before a s = true) : ∃ cA, ArrOfT s cA (.object C) ∧ va_RA s cA (.object C) := by
  obtain ⟨comp, cA, kA, f1, f2, f3, f4, f5⟩ := Cond.arrayOver_spec h
  exact ⟨cA, fun N z => ⟨(fun k h => by cases h), kA, f3, comp, f4⟩, kA, comp, f3, f4, f1, f5⟩
theorem zq_inst {ci : Nat} (h : ci < 8) : Cond.instantiable (xf_C ci) (xf_N ci) ∈ xTb := by
  match ci, h with
  | 0, _ => exact wT_X0
  | 1, _ => exact wT_X1
  | 2, _ => exact wT_X2
  | 3, _ => exact wT_X3
  | 4, _ => exact wT_X4
  | 5, _ => exact wT_X5
  | 6, _ => exact zq_wT6
  | 7, _ => exact zq_wT7
  | n + 8, h => omega
theorem zq_world {s : State} {a : Array Value} (hts : ∀ w ∈ lw_tbl, w.before a s = true) : ∃ G : xG, xK G s := by
  have tb : ∀ w ∈ xTb, w ∈ lw_tbl := fun w h => (List.mem_filter.mp h).1
  have h2 : ∀ ci, ∃ r : ClassId × (Nat → Nat), ci < 8 → u_Kn s (xf_C ci) (xf_T ci) (xf_N ci) r.1 r.2 := by
    intro ci
    by_cases hci : ci < 8
    · obtain ⟨cC, iS, h⟩ := u_known (C := xf_C ci) (T := xf_T ci) (N := xf_N ci) (n := xf_N ci) hts (fun w h => tb w (xf_in hci w h)) (hts _ (tb _ (zq_inst hci)))
      exact ⟨(cC, iS), fun _ => h⟩
    · exact ⟨(0, fun _ => 0), fun h => absurd h hci⟩
  obtain ⟨a0, e0⟩ := zq_arrI (hts _ (tb _ wA_int))
  obtain ⟨a1, e1⟩ := zq_arrZ (hts _ (tb _ wA_boolean))
  obtain ⟨a2, e2⟩ := zq_arrQ (hts _ zq_wO0)
  obtain ⟨a3, e3⟩ := zq_arrQ (hts _ zq_wO1)
  obtain ⟨a4, e4⟩ := zq_arrQ (hts _ zq_wO2)
  obtain ⟨a5, e5⟩ := zq_arrQ (hts _ zq_wO3)
  refine ⟨((fun ci => (Classical.choose (h2 ci)).1, fun ci => (Classical.choose (h2 ci)).2), fun t => if t = 0 then a0 else if t = 1 then a1 else if t = 2 then a2 else if t = 3 then a3 else if t = 4 then a4 else a5), ⟨fun ci q hq => ?_, fun k q hq => ?_⟩, ⟨va_Nw.of rfl (hts _ zq_wH0), va_Nw.of rfl (hts _ zq_wH1), va_Nw.of rfl (hts _ zq_wH2), va_Nw.of rfl (hts _ zq_wH3)⟩, fun t ht => ?_⟩
  · have hc : ci < 8 := (List.getElem?_eq_some_iff.mp hq).1
    rw [xf_cl hc] at hq
    cases hq
    exact Classical.choose_spec (h2 ci) hc
  · have hc : k < 6 := (List.getElem?_eq_some_iff.mp hq).1
    match k, hc, hq with
    | 0, _, hq => cases hq; exact e0
    | 1, _, hq => cases hq; exact e1
    | 2, _, hq => cases hq; exact e2
    | 3, _, hq => cases hq; exact e3
    | 4, _, hq => cases hq; exact e4
    | 5, _, hq => cases hq; exact e5
    | n + 6, h, _ => omega
  · match t, ht with
    | 0, _ => exact va_AO.of (hts _ zq_wO0)
    | 1, _ => exact va_AO.of (hts _ zq_wO1)
    | 2, _ => exact va_AO.of (hts _ zq_wO2)
    | 3, _ => exact va_AO.of (hts _ zq_wO3)
    | n + 4, h => omega
theorem zq_newF {σ : xS} {ci n : Nat} (h : xh_n σ = n) : xh_n (xs_new σ ci) = n + 1 ∧ xh_m (xs_new σ ci) = xh_m σ ∧ xh_k (xs_new σ ci) n = ci + 1 ∧ (∀ f, xh_I (xs_new σ ci) f n = 0) ∧ ∀ f, xh_L (xs_new σ ci) f n = 0 := by
  subst h
  refine ⟨rfl, rfl, ?_, fun f => ?_, fun f => ?_⟩
  · show va_up (xh_k σ) (xh_n σ) (ci + 1) (xh_n σ) = ci + 1
    unfold va_up
    rw [if_pos rfl]
  · show (if xh_n σ = xh_n σ then (0 : Int32) else xh_I σ f (xh_n σ)) = 0
    rw [if_pos rfl]
  · show (if xh_n σ = xh_n σ then (0 : Int64) else xh_L σ f (xh_n σ)) = 0
    rw [if_pos rfl]
theorem zq_NN {σ : xS} {i j : Nat} : yN (yN σ i) j = yN σ j := rfl
theorem zq_law0 {b L : Nat} {xs : Nat → Int32} {n M : Nat} (hL : L ≤ 3584) {σ τ : xS} (h1 : xh_n σ = n) (h2 : xh_m σ = M) (hM : n + 2000 ≤ M) (h3 : xh_m τ = M) : yY b L xs 0 [(0, .ref b)] [] σ τ := by
  obtain ⟨n1, n2, n3, n4, n5⟩ := zq_newF (σ := σ) (ci := 6) h1
  refine y_newC dL_law_0 zq_wL7 zq_wT6 wN_X6 (by omega) ?_
  rw [h1]
  generalize xs_new σ 6 = σ1 at n1 n2 n3 n4 n5 ⊢
  refine y_dup dL_law_3 rfl ?_
  refine y_callIC (M2 := M_X6_init) (As := []) (st := [.ref n]) (n := 0) (Q2 := xqV (fun σ2 => zLi n M 16 σ2)) rfl rfl zq_wL9 zq_wI6 dL_law_4 rfl ok_X6_init ⟨Nat.le_of_ble_eq_true rfl, Nat.le_of_ble_eq_true rfl⟩ (Nat.le_of_ble_eq_true rfl) (ct_X6_init n3 (zq_ctorC n1 (n2.trans h2) (by omega) n3 n4 n5 (fun σ2 h => h))) ?_
  rintro v σ2 ⟨rfl, h4⟩
  refine y_astore_n [(1, .ref n), (0, .ref b)] dL_law_7 rfl (by decide) rfl ?_
  have k1 : xh_n σ2 = n + 38 := h4.1.1
  have k2 : xh_m σ2 = M := h4.1.2
  refine y_newM dL_law_8 zq_wL10 zq_wT7 wN_X7 (by omega) ?_
  rw [k1]
  obtain ⟨m1, m2, m3, m4, m5⟩ := zq_newF (σ := yN τ (n + 38)) (ci := 7) (n := n + 38) rfl
  have m2 : xh_m (xs_new (yN τ (n + 38)) 7) = M := m2.trans h3
  generalize xs_new (yN τ (n + 38)) 7 = τ1 at m1 m2 m3 m4 m5 ⊢
  refine y_dup dL_law_11 rfl ?_
  refine y_callIM (M2 := M_X7_init) (As := []) (st := [.ref (n + 38)]) (n := 0) (Q2 := xqV (fun τ2 => zMi (n + 38) M 39 τ2)) rfl rfl zq_wL12 zq_wI7 dL_law_12 rfl ok_X7_init ⟨Nat.le_of_ble_eq_true rfl, Nat.le_of_ble_eq_true rfl⟩ (Nat.le_of_ble_eq_true rfl) (ct_X7_init m3 (zq_ctorM ⟨⟨rfl, m2⟩, ⟨m3, m4, m5⟩, fun k h1 h2 => by omega⟩ (by omega) (fun τ2 h => h))) ?_
  rintro v τ2 ⟨rfl, h5⟩
  rw [zq_NN]
  have k3 : xh_n τ2 = n + 78 := h5.1.1
  refine y_astore_n [(2, .ref (n + 38)), (1, .ref n), (0, .ref b)] dL_law_15 rfl (by decide) rfl ?_
  refine y_iconst dL_law_16 cI_0 ?_
  refine y_istore_n [(3, .int 0), (2, .ref (n + 38)), (1, .ref n), (0, .ref b)] dL_law_17 rfl (by decide) rfl ?_
  refine y_sub (lv2 := [(0, .ref b), (1, .ref n), (2, .ref (n + 38)), (3, .int 0)]) [3, 2, 1, 0] rfl ?_
  exact law_loop hL (zq_ops (x := n) (m := n + 38)) (L + 8) 0 0 (yN σ2 (xh_n τ2)) τ2 rfl (by omega) (by omega) ⟨zE0 (xh_n τ2), _, _, 0, Nat.zero_le _, zq_made h4 (by omega) (by omega) (xh_n τ2), zq_modelMade h5 rfl, zq_I0⟩
def zq_e (n M : Nat) : xS := (fun _ => 0, n, M, fun _ _ => 0, fun _ _ => none, fun _ _ => 0, fun _ _ => 0, fun _ _ => none, fun _ => 0)
theorem zq_xr0 {G : xG} {n M : Nat} {H : Heap} : xr G (zq_e n M) H := by
  have z : ∀ a, xh_k (zq_e n M) a = 0 := fun _ => rfl
  refine ⟨fun a ci h _ => ?_, fun a t h _ => ?_, fun a t h _ => ?_, fun a => ?_, fun a h => absurd (z a) h⟩
  · rw [z] at h; omega
  · rw [z] at h; omega
  · rw [z] at h; omega
  · rw [z]; omega
theorem zq_yE0 {s : State} {G : xG} {M : Nat} (hM : M = s.heap.size + 18000) : yE s G (zq_e s.heap.size M) (zq_e s.heap.size M) s.heap [] 0 0 := by
  have hm : xh_m (zq_e s.heap.size M) = M := rfl
  have hn : xh_n (zq_e s.heap.size M) = s.heap.size := rfl
  have hk : ∀ a, xh_k (zq_e s.heap.size M) a = 0 := fun _ => rfl
  refine ⟨⟨zq_xr0, hn.symm, ?_, ?_, ?_⟩, zq_xr0, fun a h => absurd (hk a) h, ?_, va_S.rf, fun a h => absurd (hk a) h, fun a h => absurd (hk a) h, Nat.zero_add _, Nat.zero_le _⟩
  · rw [hm, hM]
  · exact Nat.le_of_eq hn.symm
  · rw [hm, hn]; omega
  · rw [hm, hM]
theorem whole_start {p : Program} {e : Env} {s : State} {m : MethodId} {below : List Frame} {meth : Method} {c : Code} (l : Launch) {b L : Nat} {xs : Nat → Int32} (hL : L ≤ 3584) (C0 : lw_At p s m meth c b L xs) : W p l e room_1 s m #[Value.ref b] below meth c s.heap [] 0 0 (lw_Z below #[Value.ref b] s) (entryFrame m ([Value.ref b] : List Value).toArray 4) := by
  obtain ⟨hx, hb, hr, hml, hown, hts, hX, hbl, hlocks, hgv⟩ := id C0
  obtain ⟨G, hG⟩ := zq_world hts
  have hl := lv_entry ([.ref b]) (n := 4) (Nat.le_of_ble_eq_true rfl)
  rw [lg_entry_eq]
  generalize (lg_sl ([.ref b]) ++ List.replicate (4 - (lg_sl ([.ref b])).length) Slot.unset).toArray = ls at hl ⊢
  have hl : lv_has ls 4 [(0, .ref b)] := hl
  obtain ⟨M, hM⟩ : ∃ M, M = s.heap.size + 18000 := ⟨_, rfl⟩
  exact zq_law0 (n := s.heap.size) (M := M) hL (σ := zq_e s.heap.size M) (τ := zq_e s.heap.size M) rfl rfl (by omega) rfl p l e s m below meth c G C0 hG s.heap [] 0 0 (zq_yE0 hM) ls hl
