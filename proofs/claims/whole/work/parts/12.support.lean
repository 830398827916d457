theorem xTb_of {w : Cond} (i : Nat) (h : tables_1[i]? = some w) (hg : goodWord w = true) : w ∈ xTb := List.mem_filter.mpr ⟨List.mem_append_right _ (List.mem_of_getElem? h), hg⟩
theorem xTb_ofS {w : Cond} (i : Nat) (h : (k2_sels lw_privs)[i]? = some w) (hg : goodWord w = true) : w ∈ xTb := List.mem_filter.mpr ⟨List.mem_append_left _ (List.mem_of_getElem? h), hg⟩
theorem pn_X0 : plainName RX0 = true := by decide +kernel
theorem pn_X1 : plainName RX1 = true := by decide +kernel
theorem pn_X2 : plainName RX2 = true := by decide +kernel
theorem pn_X3 : plainName RX3 = true := by decide +kernel
theorem pn_X4 : plainName RX4 = true := by decide +kernel
theorem pn_X5 : plainName RX5 = true := by decide +kernel
theorem pn_X6 : plainName RX6 = true := by decide +kernel
theorem pn_X7 : plainName RX7 = true := by decide +kernel
theorem pn_L : plainName RL = true := by decide +kernel
theorem xCt_ofL {M : xM} {av : List Value} {lv : List (Nat × Value)} {σ : xS} {Q : Option Value → xS → Prop} (hy : plainName (xm_y M).cls = true) (hlen : (lg_sl av).length ≤ xm_n M) (hlv : lv_args 0 av = lv) (h : xX M 0 lv [] σ Q) : xCt M av σ Q := xCt_of hy hlen (by rw [hlv]; exact h)
theorem x_sub {M : xM} {pc : Nat} {lv : List (Nat × Value)} {st : List Value} {σ : xS} {Q : Option Value → xS → Prop} {lv2 : List (Nat × Value)} (ks : List Nat) (h : lv_pick lv ks = lv2) (k : xX M pc lv2 st σ Q) : xX M pc lv st σ Q := fun l B G A p e R s m args below meth c C H locs cells slots L ls hl => k l B G A p e R s m args below meth c C H locs cells slots L ls (lv_sub hl ks h)
theorem x_lvS {M : xM} {pc : Nat} {lv : List (Nat × Value)} {st : List Value} {σ : xS} {Q : Option Value → xS → Prop} {lv2 : List (Nat × Value)} {i a : Nat} {r : Option Nat} (j : Nat) (hj : lv[j]? = some (i, va_rf r)) (hr : r = some a) (hs : lv.set j (i, .ref a) = lv2) (k : xX M pc lv2 st σ Q) : xX M pc lv st σ Q := by
  subst hr
  have hlt := (List.getElem?_eq_some_iff.mp hj).1
  have hg := (List.getElem?_eq_some_iff.mp hj).2
  have : lv2 = lv := by
    rw [← hs]
    have h2 : lv[j] = (i, Value.ref a) := hg
    rw [← h2]
    exact List.set_getElem_self hlt
  rw [← this]
  exact k
theorem x_fresh {M : xM} {pc : Nat} {lv : List (Nat × Value)} {st : List Value} {σ : xS} {Q : Option Value → xS → Prop} (k : (∀ b, xh_k σ b ≠ 0 → b < xh_n σ) → xX M pc lv st σ Q) : xX M pc lv st σ Q := fun l B G A p e R s m args below meth c C H locs cells slots L ls hl => k (fun b hb => by rw [← L.1.2.1]; exact L.1.1.2.2.2.2 b hb) l B G A p e R s m args below meth c C H locs cells slots L ls hl
theorem x_putIN {M : xM} {pc : Nat} {lv : List (Nat × Value)} {st : List Value} {σ : xS} {Q : Option Value → xS → Prop} {idx ci k a f : Nat} {x : Int32} (hd : decode (xm_c M) pc = .ok (.putfield idx, 3)) (hw : Cond.fieldLink (xm_y M).cls idx (xf_C ci) (xf_T ci k).2.1 (xf_T ci k).2.2.1 ∈ xTb) (hci : ci < 8) (hk : k < xf_N ci) (ha : xh_k σ a = ci + 1) (hfin : (xf_T ci k).2.2.2 = false ∨ ((xf_T ci k).2.2.2 = true ∧ (xm_y M).name = "<init>" ∧ xf_C ci = (xm_y M).cls)) (hf : f = 64 * ci + k) (hs : xf_ty ci k = .int ∨ (xf_ty ci k = .boolean ∧ (x = 0 ∨ x = 1))) (kk : ∀ σ2, σ2 = xs_I σ f a x → xX M (pc + 3) lv st σ2 Q) : xX M pc lv (.int x :: .ref a :: st) σ Q := x_putI hd hw hci hk ha hfin hf hs (kk _ rfl)
theorem x_putLN {M : xM} {pc : Nat} {lv : List (Nat × Value)} {st : List Value} {σ : xS} {Q : Option Value → xS → Prop} {idx ci k a f : Nat} {x : Int64} (hd : decode (xm_c M) pc = .ok (.putfield idx, 3)) (hw : Cond.fieldLink (xm_y M).cls idx (xf_C ci) (xf_T ci k).2.1 (xf_T ci k).2.2.1 ∈ xTb) (hci : ci < 8) (hk : k < xf_N ci) (ha : xh_k σ a = ci + 1) (hfin : (xf_T ci k).2.2.2 = false ∨ ((xf_T ci k).2.2.2 = true ∧ (xm_y M).name = "<init>" ∧ xf_C ci = (xm_y M).cls)) (hf : f = 64 * ci + k) (hs : xf_ty ci k = .long) (kk : ∀ σ2, σ2 = xs_L σ f a x → xX M (pc + 3) lv st σ2 Q) : xX M pc lv (.long x :: .ref a :: st) σ Q := x_putL hd hw hci hk ha hfin hf hs (kk _ rfl)
theorem x_putRN {M : xM} {pc : Nat} {lv : List (Nat × Value)} {st : List Value} {σ : xS} {Q : Option Value → xS → Prop} {idx ci k a f : Nat} {r : Option Nat} (hd : decode (xm_c M) pc = .ok (.putfield idx, 3)) (hw : Cond.fieldLink (xm_y M).cls idx (xf_C ci) (xf_T ci k).2.1 (xf_T ci k).2.2.1 ∈ xTb) (hci : ci < 8) (hk : k < xf_N ci) (ha : xh_k σ a = ci + 1) (hfin : (xf_T ci k).2.2.2 = false ∨ ((xf_T ci k).2.2.2 = true ∧ (xm_y M).name = "<init>" ∧ xf_C ci = (xm_y M).cls)) (hf : f = 64 * ci + k) (hs : xf_s (xf_ty ci k) = 1) (kk : ∀ σ2, σ2 = xs_R σ f a r → xX M (pc + 3) lv st σ2 Q) : xX M pc lv (va_rf r :: .ref a :: st) σ Q := x_putR hd hw hci hk ha hfin hf hs (kk _ rfl)
theorem x_ialdZ {M : xM} {pc : Nat} {lv : List (Nat × Value)} {st : List Value} {σ : xS} {Q : Option Value → xS → Prop} {a n : Nat} {i : Int32} (hd : decode (xm_c M) pc = .ok (.iaload, 1)) (ha : xh_k σ a = 9) (hz : xh_z σ a = n) (hin : vp_in i n) (kk : xX M (pc + 1) lv (.int (xh_a σ a i.toNatClampNeg) :: st) σ Q) : xX M pc lv (.int i :: .ref a :: st) σ Q := x_iald hd ha (by rw [hz]; exact hin) kk
theorem x_zaldZ {M : xM} {pc : Nat} {lv : List (Nat × Value)} {st : List Value} {σ : xS} {Q : Option Value → xS → Prop} {a n : Nat} {i : Int32} (hd : decode (xm_c M) pc = .ok (.baload, 1)) (ha : xh_k σ a = 10) (hz : xh_z σ a = n) (hin : vp_in i n) (kk : xX M (pc + 1) lv (.int (xh_a σ a i.toNatClampNeg) :: st) σ Q) : xX M pc lv (.int i :: .ref a :: st) σ Q := x_zald hd ha (by rw [hz]; exact hin) kk
theorem x_aaldZ {M : xM} {pc : Nat} {lv : List (Nat × Value)} {st : List Value} {σ : xS} {Q : Option Value → xS → Prop} {a t n : Nat} {i : Int32} (hd : decode (xm_c M) pc = .ok (.aaload, 1)) (ha : xh_k σ a = t + 11) (ht : t < 4) (hz : xh_z σ a = n) (hin : vp_in i n) (kk : xX M (pc + 1) lv (va_rf (xh_q σ a i.toNatClampNeg) :: st) σ Q) : xX M pc lv (.int i :: .ref a :: st) σ Q := x_aald hd ha ht (by rw [hz]; exact hin) kk
theorem x_alenZ {M : xM} {pc : Nat} {lv : List (Nat × Value)} {st : List Value} {σ : xS} {Q : Option Value → xS → Prop} {a t n : Nat} {v : Int32} (hd : decode (xm_c M) pc = .ok (.arraylength, 1)) (ha : xh_k σ a = t + 9) (ht : t < 6) (hz : xh_z σ a = n) (hv : Int32.ofNat n = v) (kk : xX M (pc + 1) lv (.int v :: st) σ Q) : xX M pc lv (.ref a :: st) σ Q := x_alen hd ha ht (by rw [hz, hv]; exact kk)
theorem x_iastN {M : xM} {pc : Nat} {lv : List (Nat × Value)} {st : List Value} {σ : xS} {Q : Option Value → xS → Prop} {a n : Nat} {i x : Int32} (hd : decode (xm_c M) pc = .ok (.iastore, 1)) (ha : xh_k σ a = 9) (hz : xh_z σ a = n) (hin : vp_in i n) (kk : ∀ σ2, σ2 = xs_a σ a i.toNatClampNeg x → xX M (pc + 1) lv st σ2 Q) : xX M pc lv (.int x :: .int i :: .ref a :: st) σ Q := x_iast hd ha (by rw [hz]; exact hin) (kk _ rfl)
theorem x_zastN {M : xM} {pc : Nat} {lv : List (Nat × Value)} {st : List Value} {σ : xS} {Q : Option Value → xS → Prop} {a n : Nat} {i x : Int32} (hd : decode (xm_c M) pc = .ok (.bastore, 1)) (ha : xh_k σ a = 10) (hz : xh_z σ a = n) (hin : vp_in i n) (hx : x = 0 ∨ x = 1) (kk : ∀ σ2, σ2 = xs_a σ a i.toNatClampNeg x → xX M (pc + 1) lv st σ2 Q) : xX M pc lv (.int x :: .int i :: .ref a :: st) σ Q := x_zast hd ha (by rw [hz]; exact hin) hx (kk _ rfl)
theorem x_aastN {M : xM} {pc : Nat} {lv : List (Nat × Value)} {st : List Value} {σ : xS} {Q : Option Value → xS → Prop} {a t v n : Nat} {i : Int32} (hd : decode (xm_c M) pc = .ok (.aastore, 1)) (ha : xh_k σ a = t + 11) (ht : t < 4) (hv : xh_k σ v = xa_c t + 1) (hz : xh_z σ a = n) (hin : vp_in i n) (kk : ∀ σ2, σ2 = xs_q σ a i.toNatClampNeg (some v) → xX M (pc + 1) lv st σ2 Q) : xX M pc lv (.ref v :: .int i :: .ref a :: st) σ Q := x_aast hd ha ht hv (by rw [hz]; exact hin) (kk _ rfl)
theorem x_newN {M : xM} {pc : Nat} {lv : List (Nat × Value)} {st : List Value} {σ : xS} {Q : Option Value → xS → Prop} {idx ci : Nat} (hd : decode (xm_c M) pc = .ok (.new idx, 3)) (hci : ci < 8) (h1 : Cond.classLink (xm_y M).cls idx (xf_C ci) ∈ xTb) (h2 : Cond.instantiable (xf_C ci) (xf_N ci) ∈ xTb) (h3 : Cond.initialized (xf_C ci) ∈ xTb) (hroom : xh_n σ < xh_m σ) (kk : ∀ σ2, σ2 = xs_new σ ci → xX M (pc + 3) lv (.ref (xh_n σ) :: st) σ2 Q) : xX M pc lv st σ Q := x_new hd hci h1 h2 h3 hroom (kk _ rfl)
theorem x_newIN {M : xM} {pc : Nat} {lv : List (Nat × Value)} {st : List Value} {σ : xS} {Q : Option Value → xS → Prop} {n : Int32} {c : Nat} (hd : decode (xm_c M) pc = .ok (.newarray .int, 2)) (h1 : Cond.arrayClass .int ∈ xTb) (hroom : xh_n σ < xh_m σ) (hn0 : ¬ n < 0) (hc : n.toNatClampNeg = c) (hn4 : c ≤ 400) (kk : ∀ σ2, σ2 = xs_arr σ 9 c → xX M (pc + 2) lv (.ref (xh_n σ) :: st) σ2 Q) : xX M pc lv (.int n :: st) σ Q := x_newI hd h1 hroom hn0 (by rw [hc]; exact hn4) (by rw [hc]; exact kk _ rfl)
theorem x_newZN {M : xM} {pc : Nat} {lv : List (Nat × Value)} {st : List Value} {σ : xS} {Q : Option Value → xS → Prop} {n : Int32} {c : Nat} (hd : decode (xm_c M) pc = .ok (.newarray .boolean, 2)) (h1 : Cond.arrayClass .boolean ∈ xTb) (hroom : xh_n σ < xh_m σ) (hn0 : ¬ n < 0) (hc : n.toNatClampNeg = c) (hn4 : c ≤ 400) (kk : ∀ σ2, σ2 = xs_arr σ 10 c → xX M (pc + 2) lv (.ref (xh_n σ) :: st) σ2 Q) : xX M pc lv (.int n :: st) σ Q := x_newZ hd h1 hroom hn0 (by rw [hc]; exact hn4) (by rw [hc]; exact kk _ rfl)
theorem x_newQN {M : xM} {pc : Nat} {lv : List (Nat × Value)} {st : List Value} {σ : xS} {Q : Option Value → xS → Prop} {n : Int32} {idx t0 c : Nat} (hd : decode (xm_c M) pc = .ok (.anewarray idx, 3)) (ht0 : t0 < 4) (h1 : Cond.classLink (xm_y M).cls idx (xf_C (xa_c t0)) ∈ xTb) (hroom : xh_n σ < xh_m σ) (hn0 : ¬ n < 0) (hc : n.toNatClampNeg = c) (hn4 : c ≤ 400) (kk : ∀ σ2, σ2 = xs_arr σ (t0 + 11) c → xX M (pc + 3) lv (.ref (xh_n σ) :: st) σ2 Q) : xX M pc lv (.int n :: st) σ Q := x_newQ hd ht0 h1 hroom hn0 (by rw [hc]; exact hn4) (by rw [hc]; exact kk _ rfl)
theorem xk_I {σ σ2 : xS} {f a b k : Nat} {v : Int32} (e : σ2 = xs_I σ f a v) (h : xh_k σ b = k) : xh_k σ2 b = k := by subst e; exact h
theorem xk_R {σ σ2 : xS} {f a b k : Nat} {v : Option Nat} (e : σ2 = xs_R σ f a v) (h : xh_k σ b = k) : xh_k σ2 b = k := by subst e; exact h
theorem xk_L {σ σ2 : xS} {f a b k : Nat} {v : Int64} (e : σ2 = xs_L σ f a v) (h : xh_k σ b = k) : xh_k σ2 b = k := by subst e; exact h
theorem xk_a {σ σ2 : xS} {f a b k : Nat} {v : Int32} (e : σ2 = xs_a σ f a v) (h : xh_k σ b = k) : xh_k σ2 b = k := by subst e; exact h
theorem xk_q {σ σ2 : xS} {f a b k : Nat} {v : Option Nat} (e : σ2 = xs_q σ f a v) (h : xh_k σ b = k) : xh_k σ2 b = k := by subst e; exact h
theorem xk_new {σ σ2 : xS} {ci b k : Nat} (hf : ∀ b, xh_k σ b ≠ 0 → b < xh_n σ) (e : σ2 = xs_new σ ci) (h : xh_k σ b = k + 1) : xh_k σ2 b = k + 1 := by
  subst e
  have hb : b ≠ xh_n σ := fun z => by have := hf b (by omega); omega
  show va_up (xh_k σ) (xh_n σ) (ci + 1) b = _
  simp [va_up, hb, h]
theorem xk_arr {σ σ2 : xS} {kd n b k : Nat} (hf : ∀ b, xh_k σ b ≠ 0 → b < xh_n σ) (e : σ2 = xs_arr σ kd n) (h : xh_k σ b = k + 1) : xh_k σ2 b = k + 1 := by
  subst e
  have hb : b ≠ xh_n σ := fun z => by have := hf b (by omega); omega
  show va_up (xh_k σ) (xh_n σ) kd b = _
  simp [va_up, hb, h]
theorem xk_self {σ σ2 : xS} {ci : Nat} (e : σ2 = xs_new σ ci) : xh_k σ2 (xh_n σ) = ci + 1 := by
  subst e
  show va_up (xh_k σ) (xh_n σ) (ci + 1) (xh_n σ) = _
  simp [va_up]
theorem xk_selfA {σ σ2 : xS} {kd n : Nat} (e : σ2 = xs_arr σ kd n) : xh_k σ2 (xh_n σ) = kd := by
  subst e
  show va_up (xh_k σ) (xh_n σ) kd (xh_n σ) = _
  simp [va_up]
def xw6 (σ : xS) (a : Nat) : Prop := xh_k σ a = 7 ∧ (xh_R σ 384 a = some (a + 1) ∧ xh_k σ (a + 1) = 11 ∧ xh_z σ (a + 1) = 40) ∧ (xh_R σ 385 a = some (a + 2) ∧ xh_k σ (a + 2) = 12 ∧ xh_z σ (a + 2) = 100) ∧ (xh_R σ 386 a = some (a + 3) ∧ xh_k σ (a + 3) = 13 ∧ xh_z σ (a + 3) = 40) ∧ (xh_R σ 387 a = some (a + 4) ∧ xh_k σ (a + 4) = 14 ∧ xh_z σ (a + 4) = 16) ∧ (xh_R σ 388 a = some (a + 5) ∧ xh_k σ (a + 5) = 1 ∧ True)
theorem w6r_1 {σ : xS} {a : Nat} (h : xw6 σ a) : xh_R σ 384 a = some (a + 1) := h.2.1.1
theorem w6k_1 {σ : xS} {a : Nat} (h : xw6 σ a) : xh_k σ (a + 1) = 11 := h.2.1.2.1
theorem w6z_1 {σ : xS} {a : Nat} (h : xw6 σ a) : xh_z σ (a + 1) = 40 := h.2.1.2.2
theorem w6r_2 {σ : xS} {a : Nat} (h : xw6 σ a) : xh_R σ 385 a = some (a + 2) := h.2.2.1.1
theorem w6k_2 {σ : xS} {a : Nat} (h : xw6 σ a) : xh_k σ (a + 2) = 12 := h.2.2.1.2.1
theorem w6z_2 {σ : xS} {a : Nat} (h : xw6 σ a) : xh_z σ (a + 2) = 100 := h.2.2.1.2.2
theorem w6r_3 {σ : xS} {a : Nat} (h : xw6 σ a) : xh_R σ 386 a = some (a + 3) := h.2.2.2.1.1
theorem w6k_3 {σ : xS} {a : Nat} (h : xw6 σ a) : xh_k σ (a + 3) = 13 := h.2.2.2.1.2.1
theorem w6z_3 {σ : xS} {a : Nat} (h : xw6 σ a) : xh_z σ (a + 3) = 40 := h.2.2.2.1.2.2
theorem w6r_4 {σ : xS} {a : Nat} (h : xw6 σ a) : xh_R σ 387 a = some (a + 4) := h.2.2.2.2.1.1
theorem w6k_4 {σ : xS} {a : Nat} (h : xw6 σ a) : xh_k σ (a + 4) = 14 := h.2.2.2.2.1.2.1
theorem w6z_4 {σ : xS} {a : Nat} (h : xw6 σ a) : xh_z σ (a + 4) = 16 := h.2.2.2.2.1.2.2
theorem w6r_5 {σ : xS} {a : Nat} (h : xw6 σ a) : xh_R σ 388 a = some (a + 5) := h.2.2.2.2.2.1
theorem w6k_5 {σ : xS} {a : Nat} (h : xw6 σ a) : xh_k σ (a + 5) = 1 := h.2.2.2.2.2.2.1
theorem xw6_I {σ σ2 : xS} {f a b : Nat} {v : Int32} (e : σ2 = xs_I σ f b v) (h : xw6 σ a) : xw6 σ2 a := by subst e; exact h
theorem xw6_L {σ σ2 : xS} {f a b : Nat} {v : Int64} (e : σ2 = xs_L σ f b v) (h : xw6 σ a) : xw6 σ2 a := by subst e; exact h
theorem xw6_a {σ σ2 : xS} {f a b : Nat} {v : Int32} (e : σ2 = xs_a σ f b v) (h : xw6 σ a) : xw6 σ2 a := by subst e; exact h
theorem xw6_q {σ σ2 : xS} {f a b : Nat} {v : Option Nat} (e : σ2 = xs_q σ f b v) (h : xw6 σ a) : xw6 σ2 a := by subst e; exact h
theorem xw6_R {σ σ2 : xS} {f a b : Nat} {v : Option Nat} (hf : f < 384) (e : σ2 = xs_R σ f b v) (h : xw6 σ a) : xw6 σ2 a := by
  subst e
  have hr : ∀ g, 384 ≤ g → xh_R (xs_R σ f b v) g a = xh_R σ g a := fun g hg => by
    show xu_2 (xh_R σ) f b v g a = _
    unfold xu_2
    rw [if_neg (fun z => by omega)]
  unfold xw6
  rw [hr 384 (by omega), hr 385 (by omega), hr 386 (by omega), hr 387 (by omega), hr 388 (by omega)]
  exact h
theorem xw6_new {σ σ2 : xS} {ci a : Nat} (hf : ∀ b, xh_k σ b ≠ 0 → b < xh_n σ) (e : σ2 = xs_new σ ci) (h : xw6 σ a) : xw6 σ2 a := by
  have ha : a ≠ xh_n σ := fun z => by have := hf a (by rw [h.1]; decide); omega
  have hr : ∀ g, xh_R σ2 g a = xh_R σ g a := fun g => by
    subst e
    show (if a = xh_n σ then none else _) = _
    rw [if_neg ha]
  have hz : xh_z σ2 = xh_z σ := by subst e; rfl
  unfold xw6
  rw [hr 384, hr 385, hr 386, hr 387, hr 388, hz]
  exact ⟨xk_new hf e h.1, ⟨w6r_1 h, xk_new hf e (w6k_1 h), w6z_1 h⟩, ⟨w6r_2 h, xk_new hf e (w6k_2 h), w6z_2 h⟩, ⟨w6r_3 h, xk_new hf e (w6k_3 h), w6z_3 h⟩, ⟨w6r_4 h, xk_new hf e (w6k_4 h), w6z_4 h⟩, ⟨w6r_5 h, xk_new hf e (w6k_5 h), trivial⟩⟩
def xw7 (σ : xS) (a : Nat) : Prop := xh_k σ a = 8 ∧ (xh_R σ 449 a = some (a + 1) ∧ xh_k σ (a + 1) = 9 ∧ xh_z σ (a + 1) = 40) ∧ (xh_R σ 450 a = some (a + 2) ∧ xh_k σ (a + 2) = 9 ∧ xh_z σ (a + 2) = 40) ∧ (xh_R σ 451 a = some (a + 3) ∧ xh_k σ (a + 3) = 9 ∧ xh_z σ (a + 3) = 40) ∧ (xh_R σ 452 a = some (a + 4) ∧ xh_k σ (a + 4) = 9 ∧ xh_z σ (a + 4) = 40) ∧ (xh_R σ 453 a = some (a + 5) ∧ xh_k σ (a + 5) = 9 ∧ xh_z σ (a + 5) = 40) ∧ (xh_R σ 454 a = some (a + 6) ∧ xh_k σ (a + 6) = 10 ∧ xh_z σ (a + 6) = 40) ∧ (xh_R σ 455 a = some (a + 7) ∧ xh_k σ (a + 7) = 10 ∧ xh_z σ (a + 7) = 40) ∧ (xh_R σ 456 a = some (a + 8) ∧ xh_k σ (a + 8) = 9 ∧ xh_z σ (a + 8) = 40) ∧ (xh_R σ 458 a = some (a + 9) ∧ xh_k σ (a + 9) = 9 ∧ xh_z σ (a + 9) = 100) ∧ (xh_R σ 459 a = some (a + 10) ∧ xh_k σ (a + 10) = 9 ∧ xh_z σ (a + 10) = 100) ∧ (xh_R σ 460 a = some (a + 11) ∧ xh_k σ (a + 11) = 9 ∧ xh_z σ (a + 11) = 100) ∧ (xh_R σ 461 a = some (a + 12) ∧ xh_k σ (a + 12) = 9 ∧ xh_z σ (a + 12) = 100) ∧ (xh_R σ 462 a = some (a + 13) ∧ xh_k σ (a + 13) = 9 ∧ xh_z σ (a + 13) = 100) ∧ (xh_R σ 463 a = some (a + 14) ∧ xh_k σ (a + 14) = 9 ∧ xh_z σ (a + 14) = 100) ∧ (xh_R σ 464 a = some (a + 15) ∧ xh_k σ (a + 15) = 9 ∧ xh_z σ (a + 15) = 100) ∧ (xh_R σ 465 a = some (a + 16) ∧ xh_k σ (a + 16) = 9 ∧ xh_z σ (a + 16) = 100) ∧ (xh_R σ 466 a = some (a + 17) ∧ xh_k σ (a + 17) = 9 ∧ xh_z σ (a + 17) = 100) ∧ (xh_R σ 467 a = some (a + 18) ∧ xh_k σ (a + 18) = 9 ∧ xh_z σ (a + 18) = 100) ∧ (xh_R σ 468 a = some (a + 19) ∧ xh_k σ (a + 19) = 9 ∧ xh_z σ (a + 19) = 100) ∧ (xh_R σ 469 a = some (a + 20) ∧ xh_k σ (a + 20) = 9 ∧ xh_z σ (a + 20) = 100) ∧ (xh_R σ 470 a = some (a + 21) ∧ xh_k σ (a + 21) = 9 ∧ xh_z σ (a + 21) = 100) ∧ (xh_R σ 471 a = some (a + 22) ∧ xh_k σ (a + 22) = 9 ∧ xh_z σ (a + 22) = 100) ∧ (xh_R σ 474 a = some (a + 23) ∧ xh_k σ (a + 23) = 9 ∧ xh_z σ (a + 23) = 40) ∧ (xh_R σ 475 a = some (a + 24) ∧ xh_k σ (a + 24) = 9 ∧ xh_z σ (a + 24) = 40) ∧ (xh_R σ 476 a = some (a + 25) ∧ xh_k σ (a + 25) = 9 ∧ xh_z σ (a + 25) = 40) ∧ (xh_R σ 477 a = some (a + 26) ∧ xh_k σ (a + 26) = 10 ∧ xh_z σ (a + 26) = 40) ∧ (xh_R σ 479 a = some (a + 27) ∧ xh_k σ (a + 27) = 9 ∧ xh_z σ (a + 27) = 400) ∧ (xh_R σ 480 a = some (a + 28) ∧ xh_k σ (a + 28) = 9 ∧ xh_z σ (a + 28) = 400) ∧ (xh_R σ 481 a = some (a + 29) ∧ xh_k σ (a + 29) = 9 ∧ xh_z σ (a + 29) = 400) ∧ (xh_R σ 482 a = some (a + 30) ∧ xh_k σ (a + 30) = 9 ∧ xh_z σ (a + 30) = 400) ∧ (xh_R σ 483 a = some (a + 31) ∧ xh_k σ (a + 31) = 9 ∧ xh_z σ (a + 31) = 400) ∧ (xh_R σ 484 a = some (a + 32) ∧ xh_k σ (a + 32) = 9 ∧ xh_z σ (a + 32) = 400) ∧ (xh_R σ 485 a = some (a + 33) ∧ xh_k σ (a + 33) = 9 ∧ xh_z σ (a + 33) = 400) ∧ (xh_R σ 486 a = some (a + 34) ∧ xh_k σ (a + 34) = 9 ∧ xh_z σ (a + 34) = 400) ∧ (xh_R σ 487 a = some (a + 35) ∧ xh_k σ (a + 35) = 10 ∧ xh_z σ (a + 35) = 400) ∧ (xh_R σ 488 a = some (a + 36) ∧ xh_k σ (a + 36) = 10 ∧ xh_z σ (a + 36) = 16) ∧ (xh_R σ 490 a = some (a + 37) ∧ xh_k σ (a + 37) = 9 ∧ xh_z σ (a + 37) = 400) ∧ (xh_R σ 491 a = some (a + 38) ∧ xh_k σ (a + 38) = 9 ∧ xh_z σ (a + 38) = 400) ∧ (xh_R σ 492 a = some (a + 39) ∧ xh_k σ (a + 39) = 9 ∧ xh_z σ (a + 39) = 400)
theorem w7r_1 {σ : xS} {a : Nat} (h : xw7 σ a) : xh_R σ 449 a = some (a + 1) := h.2.1.1
theorem w7k_1 {σ : xS} {a : Nat} (h : xw7 σ a) : xh_k σ (a + 1) = 9 := h.2.1.2.1
theorem w7z_1 {σ : xS} {a : Nat} (h : xw7 σ a) : xh_z σ (a + 1) = 40 := h.2.1.2.2
theorem w7r_2 {σ : xS} {a : Nat} (h : xw7 σ a) : xh_R σ 450 a = some (a + 2) := h.2.2.1.1
theorem w7k_2 {σ : xS} {a : Nat} (h : xw7 σ a) : xh_k σ (a + 2) = 9 := h.2.2.1.2.1
theorem w7z_2 {σ : xS} {a : Nat} (h : xw7 σ a) : xh_z σ (a + 2) = 40 := h.2.2.1.2.2
theorem w7r_3 {σ : xS} {a : Nat} (h : xw7 σ a) : xh_R σ 451 a = some (a + 3) := h.2.2.2.1.1
theorem w7k_3 {σ : xS} {a : Nat} (h : xw7 σ a) : xh_k σ (a + 3) = 9 := h.2.2.2.1.2.1
theorem w7z_3 {σ : xS} {a : Nat} (h : xw7 σ a) : xh_z σ (a + 3) = 40 := h.2.2.2.1.2.2
theorem w7r_4 {σ : xS} {a : Nat} (h : xw7 σ a) : xh_R σ 452 a = some (a + 4) := h.2.2.2.2.1.1
theorem w7k_4 {σ : xS} {a : Nat} (h : xw7 σ a) : xh_k σ (a + 4) = 9 := h.2.2.2.2.1.2.1
theorem w7z_4 {σ : xS} {a : Nat} (h : xw7 σ a) : xh_z σ (a + 4) = 40 := h.2.2.2.2.1.2.2
theorem w7r_5 {σ : xS} {a : Nat} (h : xw7 σ a) : xh_R σ 453 a = some (a + 5) := h.2.2.2.2.2.1.1
theorem w7k_5 {σ : xS} {a : Nat} (h : xw7 σ a) : xh_k σ (a + 5) = 9 := h.2.2.2.2.2.1.2.1
theorem w7z_5 {σ : xS} {a : Nat} (h : xw7 σ a) : xh_z σ (a + 5) = 40 := h.2.2.2.2.2.1.2.2
theorem w7r_6 {σ : xS} {a : Nat} (h : xw7 σ a) : xh_R σ 454 a = some (a + 6) := h.2.2.2.2.2.2.1.1
theorem w7k_6 {σ : xS} {a : Nat} (h : xw7 σ a) : xh_k σ (a + 6) = 10 := h.2.2.2.2.2.2.1.2.1
theorem w7z_6 {σ : xS} {a : Nat} (h : xw7 σ a) : xh_z σ (a + 6) = 40 := h.2.2.2.2.2.2.1.2.2
theorem w7r_7 {σ : xS} {a : Nat} (h : xw7 σ a) : xh_R σ 455 a = some (a + 7) := h.2.2.2.2.2.2.2.1.1
theorem w7k_7 {σ : xS} {a : Nat} (h : xw7 σ a) : xh_k σ (a + 7) = 10 := h.2.2.2.2.2.2.2.1.2.1
theorem w7z_7 {σ : xS} {a : Nat} (h : xw7 σ a) : xh_z σ (a + 7) = 40 := h.2.2.2.2.2.2.2.1.2.2
theorem w7r_8 {σ : xS} {a : Nat} (h : xw7 σ a) : xh_R σ 456 a = some (a + 8) := h.2.2.2.2.2.2.2.2.1.1
theorem w7k_8 {σ : xS} {a : Nat} (h : xw7 σ a) : xh_k σ (a + 8) = 9 := h.2.2.2.2.2.2.2.2.1.2.1
theorem w7z_8 {σ : xS} {a : Nat} (h : xw7 σ a) : xh_z σ (a + 8) = 40 := h.2.2.2.2.2.2.2.2.1.2.2
theorem w7r_9 {σ : xS} {a : Nat} (h : xw7 σ a) : xh_R σ 458 a = some (a + 9) := h.2.2.2.2.2.2.2.2.2.1.1
theorem w7k_9 {σ : xS} {a : Nat} (h : xw7 σ a) : xh_k σ (a + 9) = 9 := h.2.2.2.2.2.2.2.2.2.1.2.1
theorem w7z_9 {σ : xS} {a : Nat} (h : xw7 σ a) : xh_z σ (a + 9) = 100 := h.2.2.2.2.2.2.2.2.2.1.2.2
theorem w7r_10 {σ : xS} {a : Nat} (h : xw7 σ a) : xh_R σ 459 a = some (a + 10) := h.2.2.2.2.2.2.2.2.2.2.1.1
theorem w7k_10 {σ : xS} {a : Nat} (h : xw7 σ a) : xh_k σ (a + 10) = 9 := h.2.2.2.2.2.2.2.2.2.2.1.2.1
theorem w7z_10 {σ : xS} {a : Nat} (h : xw7 σ a) : xh_z σ (a + 10) = 100 := h.2.2.2.2.2.2.2.2.2.2.1.2.2
theorem w7r_11 {σ : xS} {a : Nat} (h : xw7 σ a) : xh_R σ 460 a = some (a + 11) := h.2.2.2.2.2.2.2.2.2.2.2.1.1
theorem w7k_11 {σ : xS} {a : Nat} (h : xw7 σ a) : xh_k σ (a + 11) = 9 := h.2.2.2.2.2.2.2.2.2.2.2.1.2.1
theorem w7z_11 {σ : xS} {a : Nat} (h : xw7 σ a) : xh_z σ (a + 11) = 100 := h.2.2.2.2.2.2.2.2.2.2.2.1.2.2
theorem w7r_12 {σ : xS} {a : Nat} (h : xw7 σ a) : xh_R σ 461 a = some (a + 12) := h.2.2.2.2.2.2.2.2.2.2.2.2.1.1
theorem w7k_12 {σ : xS} {a : Nat} (h : xw7 σ a) : xh_k σ (a + 12) = 9 := h.2.2.2.2.2.2.2.2.2.2.2.2.1.2.1
theorem w7z_12 {σ : xS} {a : Nat} (h : xw7 σ a) : xh_z σ (a + 12) = 100 := h.2.2.2.2.2.2.2.2.2.2.2.2.1.2.2
theorem w7r_13 {σ : xS} {a : Nat} (h : xw7 σ a) : xh_R σ 462 a = some (a + 13) := h.2.2.2.2.2.2.2.2.2.2.2.2.2.1.1
theorem w7k_13 {σ : xS} {a : Nat} (h : xw7 σ a) : xh_k σ (a + 13) = 9 := h.2.2.2.2.2.2.2.2.2.2.2.2.2.1.2.1
theorem w7z_13 {σ : xS} {a : Nat} (h : xw7 σ a) : xh_z σ (a + 13) = 100 := h.2.2.2.2.2.2.2.2.2.2.2.2.2.1.2.2
theorem w7r_14 {σ : xS} {a : Nat} (h : xw7 σ a) : xh_R σ 463 a = some (a + 14) := h.2.2.2.2.2.2.2.2.2.2.2.2.2.2.1.1
theorem w7k_14 {σ : xS} {a : Nat} (h : xw7 σ a) : xh_k σ (a + 14) = 9 := h.2.2.2.2.2.2.2.2.2.2.2.2.2.2.1.2.1
theorem w7z_14 {σ : xS} {a : Nat} (h : xw7 σ a) : xh_z σ (a + 14) = 100 := h.2.2.2.2.2.2.2.2.2.2.2.2.2.2.1.2.2
theorem w7r_15 {σ : xS} {a : Nat} (h : xw7 σ a) : xh_R σ 464 a = some (a + 15) := h.2.2.2.2.2.2.2.2.2.2.2.2.2.2.2.1.1
theorem w7k_15 {σ : xS} {a : Nat} (h : xw7 σ a) : xh_k σ (a + 15) = 9 := h.2.2.2.2.2.2.2.2.2.2.2.2.2.2.2.1.2.1
theorem w7z_15 {σ : xS} {a : Nat} (h : xw7 σ a) : xh_z σ (a + 15) = 100 := h.2.2.2.2.2.2.2.2.2.2.2.2.2.2.2.1.2.2
theorem w7r_16 {σ : xS} {a : Nat} (h : xw7 σ a) : xh_R σ 465 a = some (a + 16) := h.2.2.2.2.2.2.2.2.2.2.2.2.2.2.2.2.1.1
theorem w7k_16 {σ : xS} {a : Nat} (h : xw7 σ a) : xh_k σ (a + 16) = 9 := h.2.2.2.2.2.2.2.2.2.2.2.2.2.2.2.2.1.2.1
theorem w7z_16 {σ : xS} {a : Nat} (h : xw7 σ a) : xh_z σ (a + 16) = 100 := h.2.2.2.2.2.2.2.2.2.2.2.2.2.2.2.2.1.2.2
theorem w7r_17 {σ : xS} {a : Nat} (h : xw7 σ a) : xh_R σ 466 a = some (a + 17) := h.2.2.2.2.2.2.2.2.2.2.2.2.2.2.2.2.2.1.1
theorem w7k_17 {σ : xS} {a : Nat} (h : xw7 σ a) : xh_k σ (a + 17) = 9 := h.2.2.2.2.2.2.2.2.2.2.2.2.2.2.2.2.2.1.2.1
theorem w7z_17 {σ : xS} {a : Nat} (h : xw7 σ a) : xh_z σ (a + 17) = 100 := h.2.2.2.2.2.2.2.2.2.2.2.2.2.2.2.2.2.1.2.2
theorem w7r_18 {σ : xS} {a : Nat} (h : xw7 σ a) : xh_R σ 467 a = some (a + 18) := h.2.2.2.2.2.2.2.2.2.2.2.2.2.2.2.2.2.2.1.1
theorem w7k_18 {σ : xS} {a : Nat} (h : xw7 σ a) : xh_k σ (a + 18) = 9 := h.2.2.2.2.2.2.2.2.2.2.2.2.2.2.2.2.2.2.1.2.1
theorem w7z_18 {σ : xS} {a : Nat} (h : xw7 σ a) : xh_z σ (a + 18) = 100 := h.2.2.2.2.2.2.2.2.2.2.2.2.2.2.2.2.2.2.1.2.2
theorem w7r_19 {σ : xS} {a : Nat} (h : xw7 σ a) : xh_R σ 468 a = some (a + 19) := h.2.2.2.2.2.2.2.2.2.2.2.2.2.2.2.2.2.2.2.1.1
theorem w7k_19 {σ : xS} {a : Nat} (h : xw7 σ a) : xh_k σ (a + 19) = 9 := h.2.2.2.2.2.2.2.2.2.2.2.2.2.2.2.2.2.2.2.1.2.1
theorem w7z_19 {σ : xS} {a : Nat} (h : xw7 σ a) : xh_z σ (a + 19) = 100 := h.2.2.2.2.2.2.2.2.2.2.2.2.2.2.2.2.2.2.2.1.2.2
theorem w7r_20 {σ : xS} {a : Nat} (h : xw7 σ a) : xh_R σ 469 a = some (a + 20) := h.2.2.2.2.2.2.2.2.2.2.2.2.2.2.2.2.2.2.2.2.1.1
theorem w7k_20 {σ : xS} {a : Nat} (h : xw7 σ a) : xh_k σ (a + 20) = 9 := h.2.2.2.2.2.2.2.2.2.2.2.2.2.2.2.2.2.2.2.2.1.2.1
theorem w7z_20 {σ : xS} {a : Nat} (h : xw7 σ a) : xh_z σ (a + 20) = 100 := h.2.2.2.2.2.2.2.2.2.2.2.2.2.2.2.2.2.2.2.2.1.2.2
theorem w7r_21 {σ : xS} {a : Nat} (h : xw7 σ a) : xh_R σ 470 a = some (a + 21) := h.2.2.2.2.2.2.2.2.2.2.2.2.2.2.2.2.2.2.2.2.2.1.1
theorem w7k_21 {σ : xS} {a : Nat} (h : xw7 σ a) : xh_k σ (a + 21) = 9 := h.2.2.2.2.2.2.2.2.2.2.2.2.2.2.2.2.2.2.2.2.2.1.2.1
theorem w7z_21 {σ : xS} {a : Nat} (h : xw7 σ a) : xh_z σ (a + 21) = 100 := h.2.2.2.2.2.2.2.2.2.2.2.2.2.2.2.2.2.2.2.2.2.1.2.2
theorem w7r_22 {σ : xS} {a : Nat} (h : xw7 σ a) : xh_R σ 471 a = some (a + 22) := h.2.2.2.2.2.2.2.2.2.2.2.2.2.2.2.2.2.2.2.2.2.2.1.1
theorem w7k_22 {σ : xS} {a : Nat} (h : xw7 σ a) : xh_k σ (a + 22) = 9 := h.2.2.2.2.2.2.2.2.2.2.2.2.2.2.2.2.2.2.2.2.2.2.1.2.1
theorem w7z_22 {σ : xS} {a : Nat} (h : xw7 σ a) : xh_z σ (a + 22) = 100 := h.2.2.2.2.2.2.2.2.2.2.2.2.2.2.2.2.2.2.2.2.2.2.1.2.2
theorem w7r_23 {σ : xS} {a : Nat} (h : xw7 σ a) : xh_R σ 474 a = some (a + 23) := h.2.2.2.2.2.2.2.2.2.2.2.2.2.2.2.2.2.2.2.2.2.2.2.1.1
theorem w7k_23 {σ : xS} {a : Nat} (h : xw7 σ a) : xh_k σ (a + 23) = 9 := h.2.2.2.2.2.2.2.2.2.2.2.2.2.2.2.2.2.2.2.2.2.2.2.1.2.1
theorem w7z_23 {σ : xS} {a : Nat} (h : xw7 σ a) : xh_z σ (a + 23) = 40 := h.2.2.2.2.2.2.2.2.2.2.2.2.2.2.2.2.2.2.2.2.2.2.2.1.2.2
theorem w7r_24 {σ : xS} {a : Nat} (h : xw7 σ a) : xh_R σ 475 a = some (a + 24) := h.2.2.2.2.2.2.2.2.2.2.2.2.2.2.2.2.2.2.2.2.2.2.2.2.1.1
theorem w7k_24 {σ : xS} {a : Nat} (h : xw7 σ a) : xh_k σ (a + 24) = 9 := h.2.2.2.2.2.2.2.2.2.2.2.2.2.2.2.2.2.2.2.2.2.2.2.2.1.2.1
theorem w7z_24 {σ : xS} {a : Nat} (h : xw7 σ a) : xh_z σ (a + 24) = 40 := h.2.2.2.2.2.2.2.2.2.2.2.2.2.2.2.2.2.2.2.2.2.2.2.2.1.2.2
theorem w7r_25 {σ : xS} {a : Nat} (h : xw7 σ a) : xh_R σ 476 a = some (a + 25) := h.2.2.2.2.2.2.2.2.2.2.2.2.2.2.2.2.2.2.2.2.2.2.2.2.2.1.1
theorem w7k_25 {σ : xS} {a : Nat} (h : xw7 σ a) : xh_k σ (a + 25) = 9 := h.2.2.2.2.2.2.2.2.2.2.2.2.2.2.2.2.2.2.2.2.2.2.2.2.2.1.2.1
theorem w7z_25 {σ : xS} {a : Nat} (h : xw7 σ a) : xh_z σ (a + 25) = 40 := h.2.2.2.2.2.2.2.2.2.2.2.2.2.2.2.2.2.2.2.2.2.2.2.2.2.1.2.2
theorem w7r_26 {σ : xS} {a : Nat} (h : xw7 σ a) : xh_R σ 477 a = some (a + 26) := h.2.2.2.2.2.2.2.2.2.2.2.2.2.2.2.2.2.2.2.2.2.2.2.2.2.2.1.1
theorem w7k_26 {σ : xS} {a : Nat} (h : xw7 σ a) : xh_k σ (a + 26) = 10 := h.2.2.2.2.2.2.2.2.2.2.2.2.2.2.2.2.2.2.2.2.2.2.2.2.2.2.1.2.1
theorem w7z_26 {σ : xS} {a : Nat} (h : xw7 σ a) : xh_z σ (a + 26) = 40 := h.2.2.2.2.2.2.2.2.2.2.2.2.2.2.2.2.2.2.2.2.2.2.2.2.2.2.1.2.2
theorem w7r_27 {σ : xS} {a : Nat} (h : xw7 σ a) : xh_R σ 479 a = some (a + 27) := h.2.2.2.2.2.2.2.2.2.2.2.2.2.2.2.2.2.2.2.2.2.2.2.2.2.2.2.1.1
theorem w7k_27 {σ : xS} {a : Nat} (h : xw7 σ a) : xh_k σ (a + 27) = 9 := h.2.2.2.2.2.2.2.2.2.2.2.2.2.2.2.2.2.2.2.2.2.2.2.2.2.2.2.1.2.1
theorem w7z_27 {σ : xS} {a : Nat} (h : xw7 σ a) : xh_z σ (a + 27) = 400 := h.2.2.2.2.2.2.2.2.2.2.2.2.2.2.2.2.2.2.2.2.2.2.2.2.2.2.2.1.2.2
theorem w7r_28 {σ : xS} {a : Nat} (h : xw7 σ a) : xh_R σ 480 a = some (a + 28) := h.2.2.2.2.2.2.2.2.2.2.2.2.2.2.2.2.2.2.2.2.2.2.2.2.2.2.2.2.1.1
theorem w7k_28 {σ : xS} {a : Nat} (h : xw7 σ a) : xh_k σ (a + 28) = 9 := h.2.2.2.2.2.2.2.2.2.2.2.2.2.2.2.2.2.2.2.2.2.2.2.2.2.2.2.2.1.2.1
theorem w7z_28 {σ : xS} {a : Nat} (h : xw7 σ a) : xh_z σ (a + 28) = 400 := h.2.2.2.2.2.2.2.2.2.2.2.2.2.2.2.2.2.2.2.2.2.2.2.2.2.2.2.2.1.2.2
theorem w7r_29 {σ : xS} {a : Nat} (h : xw7 σ a) : xh_R σ 481 a = some (a + 29) := h.2.2.2.2.2.2.2.2.2.2.2.2.2.2.2.2.2.2.2.2.2.2.2.2.2.2.2.2.2.1.1
theorem w7k_29 {σ : xS} {a : Nat} (h : xw7 σ a) : xh_k σ (a + 29) = 9 := h.2.2.2.2.2.2.2.2.2.2.2.2.2.2.2.2.2.2.2.2.2.2.2.2.2.2.2.2.2.1.2.1
theorem w7z_29 {σ : xS} {a : Nat} (h : xw7 σ a) : xh_z σ (a + 29) = 400 := h.2.2.2.2.2.2.2.2.2.2.2.2.2.2.2.2.2.2.2.2.2.2.2.2.2.2.2.2.2.1.2.2
theorem w7r_30 {σ : xS} {a : Nat} (h : xw7 σ a) : xh_R σ 482 a = some (a + 30) := h.2.2.2.2.2.2.2.2.2.2.2.2.2.2.2.2.2.2.2.2.2.2.2.2.2.2.2.2.2.2.1.1
theorem w7k_30 {σ : xS} {a : Nat} (h : xw7 σ a) : xh_k σ (a + 30) = 9 := h.2.2.2.2.2.2.2.2.2.2.2.2.2.2.2.2.2.2.2.2.2.2.2.2.2.2.2.2.2.2.1.2.1
theorem w7z_30 {σ : xS} {a : Nat} (h : xw7 σ a) : xh_z σ (a + 30) = 400 := h.2.2.2.2.2.2.2.2.2.2.2.2.2.2.2.2.2.2.2.2.2.2.2.2.2.2.2.2.2.2.1.2.2
theorem w7r_31 {σ : xS} {a : Nat} (h : xw7 σ a) : xh_R σ 483 a = some (a + 31) := h.2.2.2.2.2.2.2.2.2.2.2.2.2.2.2.2.2.2.2.2.2.2.2.2.2.2.2.2.2.2.2.1.1
theorem w7k_31 {σ : xS} {a : Nat} (h : xw7 σ a) : xh_k σ (a + 31) = 9 := h.2.2.2.2.2.2.2.2.2.2.2.2.2.2.2.2.2.2.2.2.2.2.2.2.2.2.2.2.2.2.2.1.2.1
theorem w7z_31 {σ : xS} {a : Nat} (h : xw7 σ a) : xh_z σ (a + 31) = 400 := h.2.2.2.2.2.2.2.2.2.2.2.2.2.2.2.2.2.2.2.2.2.2.2.2.2.2.2.2.2.2.2.1.2.2
theorem w7r_32 {σ : xS} {a : Nat} (h : xw7 σ a) : xh_R σ 484 a = some (a + 32) := h.2.2.2.2.2.2.2.2.2.2.2.2.2.2.2.2.2.2.2.2.2.2.2.2.2.2.2.2.2.2.2.2.1.1
theorem w7k_32 {σ : xS} {a : Nat} (h : xw7 σ a) : xh_k σ (a + 32) = 9 := h.2.2.2.2.2.2.2.2.2.2.2.2.2.2.2.2.2.2.2.2.2.2.2.2.2.2.2.2.2.2.2.2.1.2.1
theorem w7z_32 {σ : xS} {a : Nat} (h : xw7 σ a) : xh_z σ (a + 32) = 400 := h.2.2.2.2.2.2.2.2.2.2.2.2.2.2.2.2.2.2.2.2.2.2.2.2.2.2.2.2.2.2.2.2.1.2.2
theorem w7r_33 {σ : xS} {a : Nat} (h : xw7 σ a) : xh_R σ 485 a = some (a + 33) := h.2.2.2.2.2.2.2.2.2.2.2.2.2.2.2.2.2.2.2.2.2.2.2.2.2.2.2.2.2.2.2.2.2.1.1
theorem w7k_33 {σ : xS} {a : Nat} (h : xw7 σ a) : xh_k σ (a + 33) = 9 := h.2.2.2.2.2.2.2.2.2.2.2.2.2.2.2.2.2.2.2.2.2.2.2.2.2.2.2.2.2.2.2.2.2.1.2.1
theorem w7z_33 {σ : xS} {a : Nat} (h : xw7 σ a) : xh_z σ (a + 33) = 400 := h.2.2.2.2.2.2.2.2.2.2.2.2.2.2.2.2.2.2.2.2.2.2.2.2.2.2.2.2.2.2.2.2.2.1.2.2
theorem w7r_34 {σ : xS} {a : Nat} (h : xw7 σ a) : xh_R σ 486 a = some (a + 34) := h.2.2.2.2.2.2.2.2.2.2.2.2.2.2.2.2.2.2.2.2.2.2.2.2.2.2.2.2.2.2.2.2.2.2.1.1
theorem w7k_34 {σ : xS} {a : Nat} (h : xw7 σ a) : xh_k σ (a + 34) = 9 := h.2.2.2.2.2.2.2.2.2.2.2.2.2.2.2.2.2.2.2.2.2.2.2.2.2.2.2.2.2.2.2.2.2.2.1.2.1
theorem w7z_34 {σ : xS} {a : Nat} (h : xw7 σ a) : xh_z σ (a + 34) = 400 := h.2.2.2.2.2.2.2.2.2.2.2.2.2.2.2.2.2.2.2.2.2.2.2.2.2.2.2.2.2.2.2.2.2.2.1.2.2
theorem w7r_35 {σ : xS} {a : Nat} (h : xw7 σ a) : xh_R σ 487 a = some (a + 35) := h.2.2.2.2.2.2.2.2.2.2.2.2.2.2.2.2.2.2.2.2.2.2.2.2.2.2.2.2.2.2.2.2.2.2.2.1.1
theorem w7k_35 {σ : xS} {a : Nat} (h : xw7 σ a) : xh_k σ (a + 35) = 10 := h.2.2.2.2.2.2.2.2.2.2.2.2.2.2.2.2.2.2.2.2.2.2.2.2.2.2.2.2.2.2.2.2.2.2.2.1.2.1
theorem w7z_35 {σ : xS} {a : Nat} (h : xw7 σ a) : xh_z σ (a + 35) = 400 := h.2.2.2.2.2.2.2.2.2.2.2.2.2.2.2.2.2.2.2.2.2.2.2.2.2.2.2.2.2.2.2.2.2.2.2.1.2.2
theorem w7r_36 {σ : xS} {a : Nat} (h : xw7 σ a) : xh_R σ 488 a = some (a + 36) := h.2.2.2.2.2.2.2.2.2.2.2.2.2.2.2.2.2.2.2.2.2.2.2.2.2.2.2.2.2.2.2.2.2.2.2.2.1.1
theorem w7k_36 {σ : xS} {a : Nat} (h : xw7 σ a) : xh_k σ (a + 36) = 10 := h.2.2.2.2.2.2.2.2.2.2.2.2.2.2.2.2.2.2.2.2.2.2.2.2.2.2.2.2.2.2.2.2.2.2.2.2.1.2.1
theorem w7z_36 {σ : xS} {a : Nat} (h : xw7 σ a) : xh_z σ (a + 36) = 16 := h.2.2.2.2.2.2.2.2.2.2.2.2.2.2.2.2.2.2.2.2.2.2.2.2.2.2.2.2.2.2.2.2.2.2.2.2.1.2.2
theorem w7r_37 {σ : xS} {a : Nat} (h : xw7 σ a) : xh_R σ 490 a = some (a + 37) := h.2.2.2.2.2.2.2.2.2.2.2.2.2.2.2.2.2.2.2.2.2.2.2.2.2.2.2.2.2.2.2.2.2.2.2.2.2.1.1
theorem w7k_37 {σ : xS} {a : Nat} (h : xw7 σ a) : xh_k σ (a + 37) = 9 := h.2.2.2.2.2.2.2.2.2.2.2.2.2.2.2.2.2.2.2.2.2.2.2.2.2.2.2.2.2.2.2.2.2.2.2.2.2.1.2.1
theorem w7z_37 {σ : xS} {a : Nat} (h : xw7 σ a) : xh_z σ (a + 37) = 400 := h.2.2.2.2.2.2.2.2.2.2.2.2.2.2.2.2.2.2.2.2.2.2.2.2.2.2.2.2.2.2.2.2.2.2.2.2.2.1.2.2
theorem w7r_38 {σ : xS} {a : Nat} (h : xw7 σ a) : xh_R σ 491 a = some (a + 38) := h.2.2.2.2.2.2.2.2.2.2.2.2.2.2.2.2.2.2.2.2.2.2.2.2.2.2.2.2.2.2.2.2.2.2.2.2.2.2.1.1
theorem w7k_38 {σ : xS} {a : Nat} (h : xw7 σ a) : xh_k σ (a + 38) = 9 := h.2.2.2.2.2.2.2.2.2.2.2.2.2.2.2.2.2.2.2.2.2.2.2.2.2.2.2.2.2.2.2.2.2.2.2.2.2.2.1.2.1
theorem w7z_38 {σ : xS} {a : Nat} (h : xw7 σ a) : xh_z σ (a + 38) = 400 := h.2.2.2.2.2.2.2.2.2.2.2.2.2.2.2.2.2.2.2.2.2.2.2.2.2.2.2.2.2.2.2.2.2.2.2.2.2.2.1.2.2
theorem w7r_39 {σ : xS} {a : Nat} (h : xw7 σ a) : xh_R σ 492 a = some (a + 39) := h.2.2.2.2.2.2.2.2.2.2.2.2.2.2.2.2.2.2.2.2.2.2.2.2.2.2.2.2.2.2.2.2.2.2.2.2.2.2.2.1
theorem w7k_39 {σ : xS} {a : Nat} (h : xw7 σ a) : xh_k σ (a + 39) = 9 := h.2.2.2.2.2.2.2.2.2.2.2.2.2.2.2.2.2.2.2.2.2.2.2.2.2.2.2.2.2.2.2.2.2.2.2.2.2.2.2.2.1
theorem w7z_39 {σ : xS} {a : Nat} (h : xw7 σ a) : xh_z σ (a + 39) = 400 := h.2.2.2.2.2.2.2.2.2.2.2.2.2.2.2.2.2.2.2.2.2.2.2.2.2.2.2.2.2.2.2.2.2.2.2.2.2.2.2.2.2
theorem xw7_I {σ σ2 : xS} {f a b : Nat} {v : Int32} (e : σ2 = xs_I σ f b v) (h : xw7 σ a) : xw7 σ2 a := by subst e; exact h
theorem xw7_L {σ σ2 : xS} {f a b : Nat} {v : Int64} (e : σ2 = xs_L σ f b v) (h : xw7 σ a) : xw7 σ2 a := by subst e; exact h
theorem xw7_a {σ σ2 : xS} {f a b : Nat} {v : Int32} (e : σ2 = xs_a σ f b v) (h : xw7 σ a) : xw7 σ2 a := by subst e; exact h
theorem xw7_q {σ σ2 : xS} {f a b : Nat} {v : Option Nat} (e : σ2 = xs_q σ f b v) (h : xw7 σ a) : xw7 σ2 a := by subst e; exact h
theorem xne {x y : Int32} {k : Int} (hy : y.toInt = k) (h : ¬ x = y) : ¬ k = x.toInt := fun z => h (Int32.toInt_inj.mp (by rw [hy, z]))
theorem xlk2 {a1 o1 a2 o2 d k : Int} (h1 : ¬ a1 = k) (h2 : ¬ a2 = k) : Op.lookupswitch.offset [(a1, o1), (a2, o2)] d k = d := by
  rw [Op.lookupswitch.offset_cons, if_neg h1, Op.lookupswitch.offset_cons, if_neg h2]; rfl
theorem xlk3 {a1 o1 a2 o2 a3 o3 d k : Int} (h1 : ¬ a1 = k) (h2 : ¬ a2 = k) (h3 : ¬ a3 = k) : Op.lookupswitch.offset [(a1, o1), (a2, o2), (a3, o3)] d k = d := by
  rw [Op.lookupswitch.offset_cons, if_neg h1, Op.lookupswitch.offset_cons, if_neg h2, Op.lookupswitch.offset_cons, if_neg h3]; rfl
theorem xsw_0_4 {x : Int32} (h0 : ¬ x = 0) (h1 : ¬ x = 1) (h2 : ¬ x = 2) (h3 : ¬ x = 3) (h4 : ¬ x = 4) : x.toInt < 0 ∨ (4 : Int) < x.toInt := by
  have e0 : ¬ (0 : Int) = x.toInt := xne (by decide) h0
  have e1 : ¬ (1 : Int) = x.toInt := xne (by decide) h1
  have e2 : ¬ (2 : Int) = x.toInt := xne (by decide) h2
  have e3 : ¬ (3 : Int) = x.toInt := xne (by decide) h3
  have e4 : ¬ (4 : Int) = x.toInt := xne (by decide) h4
  omega
theorem xsw_0_5 {x : Int32} (h0 : ¬ x = 0) (h1 : ¬ x = 1) (h2 : ¬ x = 2) (h3 : ¬ x = 3) (h4 : ¬ x = 4) (h5 : ¬ x = 5) : x.toInt < 0 ∨ (5 : Int) < x.toInt := by
  have e0 : ¬ (0 : Int) = x.toInt := xne (by decide) h0
  have e1 : ¬ (1 : Int) = x.toInt := xne (by decide) h1
  have e2 : ¬ (2 : Int) = x.toInt := xne (by decide) h2
  have e3 : ¬ (3 : Int) = x.toInt := xne (by decide) h3
  have e4 : ¬ (4 : Int) = x.toInt := xne (by decide) h4
  have e5 : ¬ (5 : Int) = x.toInt := xne (by decide) h5
  omega
theorem xsw_0_6 {x : Int32} (h0 : ¬ x = 0) (h1 : ¬ x = 1) (h2 : ¬ x = 2) (h3 : ¬ x = 3) (h4 : ¬ x = 4) (h5 : ¬ x = 5) (h6 : ¬ x = 6) : x.toInt < 0 ∨ (6 : Int) < x.toInt := by
  have e0 : ¬ (0 : Int) = x.toInt := xne (by decide) h0
  have e1 : ¬ (1 : Int) = x.toInt := xne (by decide) h1
  have e2 : ¬ (2 : Int) = x.toInt := xne (by decide) h2
  have e3 : ¬ (3 : Int) = x.toInt := xne (by decide) h3
  have e4 : ¬ (4 : Int) = x.toInt := xne (by decide) h4
  have e5 : ¬ (5 : Int) = x.toInt := xne (by decide) h5
  have e6 : ¬ (6 : Int) = x.toInt := xne (by decide) h6
  omega
theorem xsw_0_7 {x : Int32} (h0 : ¬ x = 0) (h1 : ¬ x = 1) (h2 : ¬ x = 2) (h3 : ¬ x = 3) (h4 : ¬ x = 4) (h5 : ¬ x = 5) (h6 : ¬ x = 6) (h7 : ¬ x = 7) : x.toInt < 0 ∨ (7 : Int) < x.toInt := by
  have e0 : ¬ (0 : Int) = x.toInt := xne (by decide) h0
  have e1 : ¬ (1 : Int) = x.toInt := xne (by decide) h1
  have e2 : ¬ (2 : Int) = x.toInt := xne (by decide) h2
  have e3 : ¬ (3 : Int) = x.toInt := xne (by decide) h3
  have e4 : ¬ (4 : Int) = x.toInt := xne (by decide) h4
  have e5 : ¬ (5 : Int) = x.toInt := xne (by decide) h5
  have e6 : ¬ (6 : Int) = x.toInt := xne (by decide) h6
  have e7 : ¬ (7 : Int) = x.toInt := xne (by decide) h7
  omega
theorem xsw_0_8 {x : Int32} (h0 : ¬ x = 0) (h1 : ¬ x = 1) (h2 : ¬ x = 2) (h3 : ¬ x = 3) (h4 : ¬ x = 4) (h5 : ¬ x = 5) (h6 : ¬ x = 6) (h7 : ¬ x = 7) (h8 : ¬ x = 8) : x.toInt < 0 ∨ (8 : Int) < x.toInt := by
  have e0 : ¬ (0 : Int) = x.toInt := xne (by decide) h0
  have e1 : ¬ (1 : Int) = x.toInt := xne (by decide) h1
  have e2 : ¬ (2 : Int) = x.toInt := xne (by decide) h2
  have e3 : ¬ (3 : Int) = x.toInt := xne (by decide) h3
  have e4 : ¬ (4 : Int) = x.toInt := xne (by decide) h4
  have e5 : ¬ (5 : Int) = x.toInt := xne (by decide) h5
  have e6 : ¬ (6 : Int) = x.toInt := xne (by decide) h6
  have e7 : ¬ (7 : Int) = x.toInt := xne (by decide) h7
  have e8 : ¬ (8 : Int) = x.toInt := xne (by decide) h8
  omega
theorem xsw_0_18 {x : Int32} (h0 : ¬ x = 0) (h1 : ¬ x = 1) (h2 : ¬ x = 2) (h3 : ¬ x = 3) (h4 : ¬ x = 4) (h5 : ¬ x = 5) (h6 : ¬ x = 6) (h7 : ¬ x = 7) (h8 : ¬ x = 8) (h9 : ¬ x = 9) (h10 : ¬ x = 10) (h11 : ¬ x = 11) (h12 : ¬ x = 12) (h13 : ¬ x = 13) (h14 : ¬ x = 14) (h15 : ¬ x = 15) (h16 : ¬ x = 16) (h17 : ¬ x = 17) (h18 : ¬ x = 18) : x.toInt < 0 ∨ (18 : Int) < x.toInt := by
  have e0 : ¬ (0 : Int) = x.toInt := xne (by decide) h0
  have e1 : ¬ (1 : Int) = x.toInt := xne (by decide) h1
  have e2 : ¬ (2 : Int) = x.toInt := xne (by decide) h2
  have e3 : ¬ (3 : Int) = x.toInt := xne (by decide) h3
  have e4 : ¬ (4 : Int) = x.toInt := xne (by decide) h4
  have e5 : ¬ (5 : Int) = x.toInt := xne (by decide) h5
  have e6 : ¬ (6 : Int) = x.toInt := xne (by decide) h6
  have e7 : ¬ (7 : Int) = x.toInt := xne (by decide) h7
  have e8 : ¬ (8 : Int) = x.toInt := xne (by decide) h8
  have e9 : ¬ (9 : Int) = x.toInt := xne (by decide) h9
  have e10 : ¬ (10 : Int) = x.toInt := xne (by decide) h10
  have e11 : ¬ (11 : Int) = x.toInt := xne (by decide) h11
  have e12 : ¬ (12 : Int) = x.toInt := xne (by decide) h12
  have e13 : ¬ (13 : Int) = x.toInt := xne (by decide) h13
  have e14 : ¬ (14 : Int) = x.toInt := xne (by decide) h14
  have e15 : ¬ (15 : Int) = x.toInt := xne (by decide) h15
  have e16 : ¬ (16 : Int) = x.toInt := xne (by decide) h16
  have e17 : ¬ (17 : Int) = x.toInt := xne (by decide) h17
  have e18 : ¬ (18 : Int) = x.toInt := xne (by decide) h18
  omega
theorem xsw_1_6 {x : Int32} (h1 : ¬ x = 1) (h2 : ¬ x = 2) (h3 : ¬ x = 3) (h4 : ¬ x = 4) (h5 : ¬ x = 5) (h6 : ¬ x = 6) : x.toInt < 1 ∨ (6 : Int) < x.toInt := by
  have e1 : ¬ (1 : Int) = x.toInt := xne (by decide) h1
  have e2 : ¬ (2 : Int) = x.toInt := xne (by decide) h2
  have e3 : ¬ (3 : Int) = x.toInt := xne (by decide) h3
  have e4 : ¬ (4 : Int) = x.toInt := xne (by decide) h4
  have e5 : ¬ (5 : Int) = x.toInt := xne (by decide) h5
  have e6 : ¬ (6 : Int) = x.toInt := xne (by decide) h6
  omega
theorem xcatI (x : Int32) : (Value.int x).category = 1 := rfl
theorem xcatR (x : Nat) : (Value.ref x).category = 1 := rfl
theorem xcatL (x : Int64) : (Value.long x).category = 2 := rfl
theorem xcatN : Value.null.category = 1 := rfl
theorem cL_0 : Int64.ofNat ((0 : Fin 2) : Nat) = 0 := rfl
theorem cL_1 : Int64.ofNat ((1 : Fin 2) : Nat) = 1 := rfl
theorem x_mmin {M : xM} {pc : Nat} {lv : List (Nat × Value)} {st : List Value} {σ : xS} {Q : Option Value → xS → Prop} {idx : Nat} {x y : Int32} (hd : decode (xm_c M) pc = .ok (.invokestatic idx, 3)) (w1 : Cond.methodLink (xm_y M).cls idx Lib.Math.min.name ∈ xTb) (w2 : Cond.static Lib.Math.min.name ∈ xTb) (w3 : Cond.initialized "java/lang/Math" ∈ xTb) (w4 : Cond.code Lib.Math.min.name Lib.Math.min.code 2 (some .int) ∈ xTb) (hf : 1 ≤ xm_f M) (hlo : 21 ≤ xm_l M) (hst : (st.map fun v => v.category).sum ≤ 8) (kk : xX M (pc + 3) lv (.int (if y < x then y else x) :: st) σ Q) : xX M pc lv (.int y :: .int x :: st) σ Q := by
  intro l B G A p e R s m args below meth c C H locs cells slots L ls hl
  have C0 := C
  obtain ⟨hx, hb, hr, hml, hown, hts, ⟨hK, hNw⟩, hlk, hnm, hA, hR, hB⟩ := C
  have L0 := L
  obtain ⟨⟨hxr, hn, hm, hB1, hnm2⟩, hS, hdom, hc1, hs1⟩ := L
  refine va_mmin hx hb (by rw [hml]; exact hl.1.symm) hown (hts _ (List.mem_cons_of_mem _ w1)) (hts _ (List.mem_cons_of_mem _ w2)) (hts _ (List.mem_cons_of_mem _ w3)) (hts _ (List.mem_cons_of_mem _ w4)) (by rw [hR]; exact hf) (by rw [hR]; show _ ≤ xm_l M; omega) (by rw [hR]; show cells ≤ B.1 + 18000 - s.heap.size; omega) (by rw [hR]; show slots ≤ B.2 + 7200000 - xtot s.heap; omega) hd (kk l B G A p e R s m args below meth c C0 H locs cells slots L0 ls hl)
theorem x_mmax {M : xM} {pc : Nat} {lv : List (Nat × Value)} {st : List Value} {σ : xS} {Q : Option Value → xS → Prop} {idx : Nat} {x y : Int32} (hd : decode (xm_c M) pc = .ok (.invokestatic idx, 3)) (w1 : Cond.methodLink (xm_y M).cls idx Lib.Math.max.name ∈ xTb) (w2 : Cond.static Lib.Math.max.name ∈ xTb) (w3 : Cond.initialized "java/lang/Math" ∈ xTb) (w4 : Cond.code Lib.Math.max.name Lib.Math.max.code 2 (some .int) ∈ xTb) (hf : 1 ≤ xm_f M) (hlo : 21 ≤ xm_l M) (hst : (st.map fun v => v.category).sum ≤ 8) (kk : xX M (pc + 3) lv (.int (if x < y then y else x) :: st) σ Q) : xX M pc lv (.int y :: .int x :: st) σ Q := by
  intro l B G A p e R s m args below meth c C H locs cells slots L ls hl
  have C0 := C
  obtain ⟨hx, hb, hr, hml, hown, hts, ⟨hK, hNw⟩, hlk, hnm, hA, hR, hB⟩ := C
  have L0 := L
  obtain ⟨⟨hxr, hn, hm, hB1, hnm2⟩, hS, hdom, hc1, hs1⟩ := L
  refine va_mmax hx hb (by rw [hml]; exact hl.1.symm) hown (hts _ (List.mem_cons_of_mem _ w1)) (hts _ (List.mem_cons_of_mem _ w2)) (hts _ (List.mem_cons_of_mem _ w3)) (hts _ (List.mem_cons_of_mem _ w4)) (by rw [hR]; exact hf) (by rw [hR]; show _ ≤ xm_l M; omega) (by rw [hR]; show cells ≤ B.1 + 18000 - s.heap.size; omega) (by rw [hR]; show slots ≤ B.2 + 7200000 - xtot s.heap; omega) hd (kk l B G A p e R s m args below meth c C0 H locs cells slots L0 ls hl)
theorem cB_100 : (Int8.ofInt (100)).toInt32 = 100 := by decide
theorem cB_16 : (Int8.ofInt (16)).toInt32 = 16 := by decide
theorem cB_20 : (Int8.ofInt (20)).toInt32 = 20 := by decide
theorem cB_40 : (Int8.ofInt (40)).toInt32 = 40 := by decide
theorem cB_6 : (Int8.ofInt (6)).toInt32 = 6 := by decide
theorem cB_7 : (Int8.ofInt (7)).toInt32 = 7 := by decide
theorem cB_m2 : (Int8.ofInt (-2)).toInt32 = -2 := by decide
theorem cB_m3 : (Int8.ofInt (-3)).toInt32 = -3 := by decide
theorem cB_m9 : (Int8.ofInt (-9)).toInt32 = -9 := by decide
theorem cI_0 : Int32.ofInt (0) = 0 := by decide
theorem cI_1 : Int32.ofInt (1) = 1 := by decide
theorem cI_2 : Int32.ofInt (2) = 2 := by decide
theorem cI_3 : Int32.ofInt (3) = 3 := by decide
theorem cI_4 : Int32.ofInt (4) = 4 := by decide
theorem cI_5 : Int32.ofInt (5) = 5 := by decide
theorem cI_m1 : Int32.ofInt (-1) = -1 := by decide
theorem cN_100 : (100 : Int32).toNatClampNeg = 100 := by decide
theorem cN_16 : (16 : Int32).toNatClampNeg = 16 := by decide
theorem cN_40 : (40 : Int32).toNatClampNeg = 40 := by decide
theorem cN_400 : (400 : Int32).toNatClampNeg = 400 := by decide
theorem cS_1000 : (Int16.ofInt (1000)).toInt32 = 1000 := by decide
theorem cS_255 : (Int16.ofInt (255)).toInt32 = 255 := by decide
theorem cS_400 : (Int16.ofInt (400)).toInt32 = 400 := by decide
abbrev M_X0_init : xM := (yX0_init, cX0_init, 1, none, 1, 20)
abbrev M_X0_add : xM := (yX0_add, cX0_add, 2, none, 0, 0)
abbrev M_X0_take : xM := (yX0_take, cX0_take, 2, (some (.object "PromiseWire$Message")), 0, 0)
abbrev M_X0_at : xM := (yX0_at, cX0_at, 4, (some (.object "PromiseWire$Message")), 0, 0)
abbrev M_X0_sumOfNs : xM := (yX0_sumOfNs, cX0_sumOfNs, 4, (some .int), 0, 0)
abbrev M_X1_init : xM := (yX1_init, cX1_init, 4, none, 1, 20)
abbrev M_X1_answer : xM := (yX1_answer, cX1_answer, 3, (some .int), 0, 0)
abbrev M_X1_breakByCut : xM := (yX1_breakByCut, cX1_breakByCut, 1, none, 1, 22)
abbrev M_X1_destination : xM := (yX1_destination, cX1_destination, 1, (some .int), 0, 0)
abbrev M_X1_whatLetter : xM := (yX1_whatLetter, cX1_whatLetter, 1, (some .int), 0, 0)
abbrev M_X2_init : xM := (yX2_init, cX2_init, 5, none, 2, 40)
abbrev M_X2_isKnownIn : xM := (yX2_isKnownIn, cX2_isKnownIn, 2, (some .boolean), 0, 0)
abbrev M_X2_howIn : xM := (yX2_howIn, cX2_howIn, 2, (some .int), 0, 0)
abbrev M_X2_valueIn : xM := (yX2_valueIn, cX2_valueIn, 2, (some .int), 0, 0)
abbrev M_X3_init : xM := (yX3_init, cX3_init, 7, none, 2, 40)
abbrev M_X4_init : xM := (yX4_init, cX4_init, 4, none, 1, 20)
abbrev M_X5_init : xM := (yX5_init, cX5_init, 3, none, 2, 40)
abbrev M_X6_init : xM := (yX6_init, cX6_init, 2, none, 3, 62)
abbrev M_X6_isHouse : xM := (yX6_isHouse, cX6_isHouse, 1, (some .boolean), 0, 0)
abbrev M_X6_mayBegin : xM := (yX6_mayBegin, cX6_mayBegin, 2, (some .boolean), 0, 0)
abbrev M_X6_addThing : xM := (yX6_addThing, cX6_addThing, 7, (some .int), 3, 66)
abbrev M_X6_thing : xM := (yX6_thing, cX6_thing, 4, (some .int), 4, 92)
abbrev M_X6_thingAt : xM := (yX6_thingAt, cX6_thingAt, 2, (some (.object "PromiseWire$Thing")), 0, 0)
abbrev M_X6_guard : xM := (yX6_guard, cX6_guard, 6, (some .int), 4, 92)
abbrev M_X6_oneIf : xM := (yX6_oneIf, cX6_oneIf, 1, (some .int), 0, 0)
abbrev M_X6_shut : xM := (yX6_shut, cX6_shut, 5, (some .int), 1, 21)
abbrev M_X6_back : xM := (yX6_back, cX6_back, 4, (some .int), 1, 21)
abbrev M_X6_wireAt : xM := (yX6_wireAt, cX6_wireAt, 3, (some (.object "PromiseWire$Wire")), 0, 0)
abbrev M_X6_post : xM := (yX6_post, cX6_post, 5, (some .boolean), 1, 22)
abbrev M_X6_settle : xM := (yX6_settle, cX6_settle, 4, none, 2, 46)
abbrev M_X6_answerHeld : xM := (yX6_answerHeld, cX6_answerHeld, 6, (some .int), 3, 69)
abbrev M_X6_send : xM := (yX6_send, cX6_send, 3, none, 3, 69)
abbrev M_X6_sendOn : xM := (yX6_sendOn, cX6_sendOn, 4, none, 4, 91)
abbrev M_X6_postWhen : xM := (yX6_postWhen, cX6_postWhen, 5, none, 2, 46)
abbrev M_X6_postWhens : xM := (yX6_postWhens, cX6_postWhens, 5, none, 3, 70)
abbrev M_X6_tellAsker : xM := (yX6_tellAsker, cX6_tellAsker, 3, none, 4, 94)
abbrev M_X6_fulfil : xM := (yX6_fulfil, cX6_fulfil, 6, none, 5, 116)
abbrev M_X6_doAll : xM := (yX6_doAll, cX6_doAll, 3, none, 6, 141)
abbrev M_X6_wake : xM := (yX6_wake, cX6_wake, 5, (some .int), 7, 163)
abbrev M_X6_about : xM := (yX6_about, cX6_about, 4, (some .int), 1, 21)
abbrev M_X6_promiseAt : xM := (yX6_promiseAt, cX6_promiseAt, 2, (some (.object "PromiseWire$Promise")), 0, 0)
abbrev M_X6_ask : xM := (yX6_ask, cX6_ask, 13, (some .int), 7, 163)
abbrev M_X6_when : xM := (yX6_when, cX6_when, 7, (some .int), 3, 70)
abbrev M_X6_state : xM := (yX6_state, cX6_state, 5, (some .int), 1, 21)
abbrev M_X6_promise : xM := (yX6_promise, cX6_promise, 4, (some .int), 1, 21)
abbrev M_X6_receiveAnswer : xM := (yX6_receiveAnswer, cX6_receiveAnswer, 4, none, 5, 116)
abbrev M_X6_reachPromise : xM := (yX6_reachPromise, cX6_reachPromise, 3, none, 5, 114)
abbrev M_X6_hearAsCell : xM := (yX6_hearAsCell, cX6_hearAsCell, 4, (some .int), 1, 22)
abbrev M_X6_hearAsPurse : xM := (yX6_hearAsPurse, cX6_hearAsPurse, 5, (some .int), 2, 45)
abbrev M_X6_hearAsMaker : xM := (yX6_hearAsMaker, cX6_hearAsMaker, 4, (some .int), 4, 92)
abbrev M_X6_hearAsGuard : xM := (yX6_hearAsGuard, cX6_hearAsGuard, 3, (some .int), 1, 22)
abbrev M_X6_hearAsSwitch : xM := (yX6_hearAsSwitch, cX6_hearAsSwitch, 3, (some .int), 2, 44)
abbrev M_X6_hearAsJoiner : xM := (yX6_hearAsJoiner, cX6_hearAsJoiner, 3, (some .int), 1, 22)
abbrev M_X6_hearAsSleeper : xM := (yX6_hearAsSleeper, cX6_hearAsSleeper, 3, (some .int), 2, 44)
abbrev M_X6_hear : xM := (yX6_hear, cX6_hear, 3, (some .int), 5, 115)
abbrev M_X6_hold : xM := (yX6_hold, cX6_hold, 3, none, 4, 94)
abbrev M_X6_takeTurn : xM := (yX6_takeTurn, cX6_takeTurn, 3, none, 6, 137)
abbrev M_X6_deliverFirst : xM := (yX6_deliverFirst, cX6_deliverFirst, 4, (some .int), 7, 159)
abbrev M_X6_deliver : xM := (yX6_deliver, cX6_deliver, 5, (some .int), 8, 182)
abbrev M_X6_firstWireWithLetters : xM := (yX6_firstWireWithLetters, cX6_firstWireWithLetters, 3, (some (.object "PromiseWire$Wire")), 0, 0)
abbrev M_X6_flow : xM := (yX6_flow, cX6_flow, 4, (some .int), 8, 182)
abbrev M_X6_loseFirst : xM := (yX6_loseFirst, cX6_loseFirst, 3, none, 6, 139)
abbrev M_X6_cut : xM := (yX6_cut, cX6_cut, 7, (some .int), 7, 163)
abbrev M_X6_again : xM := (yX6_again, cX6_again, 5, (some .int), 1, 22)
abbrev M_X6_wire : xM := (yX6_wire, cX6_wire, 4, (some .int), 1, 22)
abbrev M_X6_letter : xM := (yX6_letter, cX6_letter, 7, (some .int), 1, 23)
abbrev M_X6_movedBy : xM := (yX6_movedBy, cX6_movedBy, 5, (some .long), 0, 0)
abbrev M_X6_purses : xM := (yX6_purses, cX6_purses, 5, (some .long), 1, 24)
abbrev M_X6_openAtHome : xM := (yX6_openAtHome, cX6_openAtHome, 4, (some .int), 1, 21)
abbrev M_X6_lettersUnderWay : xM := (yX6_lettersUnderWay, cX6_lettersUnderWay, 3, (some .int), 0, 0)
abbrev M_X6_wiresCut : xM := (yX6_wiresCut, cX6_wiresCut, 4, (some .int), 1, 20)
abbrev M_X6_messagesHeld : xM := (yX6_messagesHeld, cX6_messagesHeld, 4, (some .int), 1, 21)
abbrev M_X6_messagesWaiting : xM := (yX6_messagesWaiting, cX6_messagesWaiting, 4, (some .int), 1, 21)
abbrev M_X6_count : xM := (yX6_count, cX6_count, 2, (some .int), 2, 44)
abbrev M_X6_trace : xM := (yX6_trace, cX6_trace, 1, (some .long), 0, 0)
abbrev M_X7_init : xM := (yX7_init, cX7_init, 1, none, 1, 20)
abbrev M_X7_in : xM := (yX7_in, cX7_in, 3, (some .boolean), 0, 0)
abbrev M_X7_isThing : xM := (yX7_isThing, cX7_isThing, 2, (some .boolean), 1, 22)
abbrev M_X7_isPromise : xM := (yX7_isPromise, cX7_isPromise, 2, (some .boolean), 1, 22)
abbrev M_X7_comes : xM := (yX7_comes, cX7_comes, 6, (some .int), 0, 0)
abbrev M_X7_thing : xM := (yX7_thing, cX7_thing, 5, (some .int), 1, 25)
abbrev M_X7_guard : xM := (yX7_guard, cX7_guard, 5, (some .int), 2, 43)
abbrev M_X7_shut : xM := (yX7_shut, cX7_shut, 4, (some .int), 2, 43)
abbrev M_X7_back : xM := (yX7_back, cX7_back, 3, (some .int), 2, 43)
abbrev M_X7_about : xM := (yX7_about, cX7_about, 3, (some .int), 2, 43)
abbrev M_X7_posts : xM := (yX7_posts, cX7_posts, 10, none, 0, 0)
abbrev M_X7_sendsWhen : xM := (yX7_sendsWhen, cX7_sendsWhen, 4, none, 1, 29)
abbrev M_X7_postsWhen : xM := (yX7_postsWhen, cX7_postsWhen, 4, none, 2, 52)
abbrev M_X7_postsWhens : xM := (yX7_postsWhens, cX7_postsWhens, 6, none, 3, 75)
abbrev M_X7_isToBeDone : xM := (yX7_isToBeDone, cX7_isToBeDone, 4, none, 0, 0)
abbrev M_X7_arrives : xM := (yX7_arrives, cX7_arrives, 4, none, 4, 100)
abbrev M_X7_comesBack : xM := (yX7_comesBack, cX7_comesBack, 5, none, 5, 123)
abbrev M_X7_sendsAnswer : xM := (yX7_sendsAnswer, cX7_sendsAnswer, 7, none, 6, 147)
abbrev M_X7_settles : xM := (yX7_settles, cX7_settles, 5, none, 7, 173)
abbrev M_X7_losesMessage : xM := (yX7_losesMessage, cX7_losesMessage, 3, none, 8, 197)
abbrev M_X7_sends : xM := (yX7_sends, cX7_sends, 6, none, 9, 219)
abbrev M_X7_sendsToThing : xM := (yX7_sendsToThing, cX7_sendsToThing, 4, none, 10, 244)
abbrev M_X7_goesOn : xM := (yX7_goesOn, cX7_goesOn, 5, none, 11, 267)
abbrev M_X7_firstKept : xM := (yX7_firstKept, cX7_firstKept, 6, (some .int), 0, 0)
abbrev M_X7_doesOne : xM := (yX7_doesOne, cX7_doesOne, 5, none, 12, 291)
abbrev M_X7_doesAll : xM := (yX7_doesAll, cX7_doesAll, 2, none, 13, 315)
abbrev M_X7_answers : xM := (yX7_answers, cX7_answers, 4, none, 8, 197)
abbrev M_X7_breaks : xM := (yX7_breaks, cX7_breaks, 3, none, 9, 220)
abbrev M_X7_cell : xM := (yX7_cell, cX7_cell, 3, none, 10, 242)
abbrev M_X7_moves : xM := (yX7_moves, cX7_moves, 3, none, 11, 267)
abbrev M_X7_purse : xM := (yX7_purse, cX7_purse, 3, none, 12, 289)
abbrev M_X7_maker : xM := (yX7_maker, cX7_maker, 2, none, 10, 242)
abbrev M_X7_guardHears : xM := (yX7_guardHears, cX7_guardHears, 2, none, 11, 267)
abbrev M_X7_switchHears : xM := (yX7_switchHears, cX7_switchHears, 2, none, 12, 288)
abbrev M_X7_holds : xM := (yX7_holds, cX7_holds, 2, none, 0, 0)
abbrev M_X7_answersAll : xM := (yX7_answersAll, cX7_answersAll, 5, (some .int), 8, 197)
abbrev M_X7_joiner : xM := (yX7_joiner, cX7_joiner, 4, none, 10, 242)
abbrev M_X7_sleeper : xM := (yX7_sleeper, cX7_sleeper, 2, none, 11, 265)
abbrev M_X7_hears : xM := (yX7_hears, cX7_hears, 2, none, 13, 311)
abbrev M_X7_wake : xM := (yX7_wake, cX7_wake, 4, (some .int), 14, 336)
abbrev M_X7_isOf : xM := (yX7_isOf, cX7_isOf, 3, (some .boolean), 0, 0)
abbrev M_X7_ask : xM := (yX7_ask, cX7_ask, 9, (some .int), 14, 336)
abbrev M_X7_stateIn : xM := (yX7_stateIn, cX7_stateIn, 3, (some .int), 0, 0)
abbrev M_X7_valueIn : xM := (yX7_valueIn, cX7_valueIn, 3, (some .int), 0, 0)
abbrev M_X7_when : xM := (yX7_when, cX7_when, 4, (some .int), 3, 75)
abbrev M_X7_state : xM := (yX7_state, cX7_state, 4, (some .int), 2, 43)
abbrev M_X7_waitsFor : xM := (yX7_waitsFor, cX7_waitsFor, 4, (some .int), 0, 0)
abbrev M_X7_promise : xM := (yX7_promise, cX7_promise, 3, (some .int), 2, 43)
abbrev M_X7_firstLetter : xM := (yX7_firstLetter, cX7_firstLetter, 4, (some .int), 0, 0)
abbrev M_X7_takesOut : xM := (yX7_takesOut, cX7_takesOut, 3, none, 0, 0)
abbrev M_X7_comesToThing : xM := (yX7_comesToThing, cX7_comesToThing, 1, none, 14, 332)
abbrev M_X7_comesToPromise : xM := (yX7_comesToPromise, cX7_comesToPromise, 3, none, 12, 291)
abbrev M_X7_delivers : xM := (yX7_delivers, cX7_delivers, 3, (some .int), 15, 352)
abbrev M_X7_areHouses : xM := (yX7_areHouses, cX7_areHouses, 2, (some .boolean), 1, 22)
abbrev M_X7_deliver : xM := (yX7_deliver, cX7_deliver, 4, (some .int), 16, 374)
abbrev M_X7_flow : xM := (yX7_flow, cX7_flow, 5, (some .int), 16, 374)
abbrev M_X7_losesAll : xM := (yX7_losesAll, cX7_losesAll, 5, (some .int), 14, 336)
abbrev M_X7_cut : xM := (yX7_cut, cX7_cut, 6, (some .int), 15, 360)
abbrev M_X7_again : xM := (yX7_again, cX7_again, 3, (some .int), 2, 43)
abbrev M_X7_wire : xM := (yX7_wire, cX7_wire, 5, (some .int), 2, 43)
abbrev M_X7_letterOf : xM := (yX7_letterOf, cX7_letterOf, 6, (some .int), 0, 0)
abbrev M_X7_letter : xM := (yX7_letter, cX7_letter, 7, (some .int), 2, 43)
abbrev M_X7_purses : xM := (yX7_purses, cX7_purses, 4, (some .long), 0, 0)
abbrev M_X7_countWhere : xM := (yX7_countWhere, cX7_countWhere, 4, (some .int), 0, 0)
abbrev M_X7_count : xM := (yX7_count, cX7_count, 4, (some .int), 1, 23)
abbrev M_X7_trace : xM := (yX7_trace, cX7_trace, 1, (some .long), 0, 0)
