theorem xa_K {G : xG} {s : State} (h : va_K G.1 vwCl (xT G) s) {t : Nat} {q : ClassId × FieldType} (ht : (xT G)[t]? = some q) : ArrOfT s q.1 q.2 ∧ va_RA s q.1 q.2 := h.2 t q ht
theorem x_iald {M : xM} {pc : Nat} {lv : List (Nat × Value)} {st : List Value} {σ : xS} {Q : Option Value → xS → Prop} {a : Nat} {i : Int32} (hd : decode (xm_c M) pc = .ok (.iaload, 1)) (ha : xh_k σ a = 9) (hin : vp_in i (xh_z σ a)) (kk : xX M (pc + 1) lv (.int (xh_a σ a i.toNatClampNeg) :: st) σ Q) : xX M pc lv (.int i :: .ref a :: st) σ Q := by
  intro l B G A p e R s m args below meth c C H locs cells slots L ls hl
  have C0 := C
  obtain ⟨hx, hb, hr, hml, hown, hts, ⟨hK, hNw⟩, hlk, hnm, hA, hR, hB⟩ := C
  have L0 := L
  obtain ⟨⟨hxr, hn, hm, hB1, hnm2⟩, hS, hdom, hc1, hs1⟩ := L
  have hcell := hxr.2.1 a 0 ha (by decide)
  have hlt : i.toNatClampNeg < xh_z σ a := Nat.not_le.mp fun q => hin (Or.inr q)
  exact W.iald hx hb hcell ((xa_K hK (t := 0) rfl).1 _ _) (fun q => by cases q) (by rw [arrV_size]; exact hin) (by rw [arrV_read _ _ hlt]) rfl rfl hd (kk l B G A p e R s m args below meth c C0 H locs cells slots L0 ls hl)
theorem x_zald {M : xM} {pc : Nat} {lv : List (Nat × Value)} {st : List Value} {σ : xS} {Q : Option Value → xS → Prop} {a : Nat} {i : Int32} (hd : decode (xm_c M) pc = .ok (.baload, 1)) (ha : xh_k σ a = 10) (hin : vp_in i (xh_z σ a)) (kk : xX M (pc + 1) lv (.int (xh_a σ a i.toNatClampNeg) :: st) σ Q) : xX M pc lv (.int i :: .ref a :: st) σ Q := by
  intro l B G A p e R s m args below meth c C H locs cells slots L ls hl
  have C0 := C
  obtain ⟨hx, hb, hr, hml, hown, hts, ⟨hK, hNw⟩, hlk, hnm, hA, hR, hB⟩ := C
  have L0 := L
  obtain ⟨⟨hxr, hn, hm, hB1, hnm2⟩, hS, hdom, hc1, hs1⟩ := L
  have hcell := hxr.2.1 a 1 ha (by decide)
  have hlt : i.toNatClampNeg < xh_z σ a := Nat.not_le.mp fun q => hin (Or.inr q)
  exact W.zald hx hb hcell ((xa_K hK (t := 1) rfl).1 _ _) (fun q => by cases q) (by rw [arrV_size]; exact hin) (by rw [arrV_read _ _ hlt]) rfl rfl hd (kk l B G A p e R s m args below meth c C0 H locs cells slots L0 ls hl)
theorem x_aald {M : xM} {pc : Nat} {lv : List (Nat × Value)} {st : List Value} {σ : xS} {Q : Option Value → xS → Prop} {a t : Nat} {i : Int32} (hd : decode (xm_c M) pc = .ok (.aaload, 1)) (ha : xh_k σ a = t + 11) (ht : t < 4) (hin : vp_in i (xh_z σ a)) (kk : xX M (pc + 1) lv (va_rf (xh_q σ a i.toNatClampNeg) :: st) σ Q) : xX M pc lv (.int i :: .ref a :: st) σ Q := by
  intro l B G A p e R s m args below meth c C H locs cells slots L ls hl
  have C0 := C
  obtain ⟨hx, hb, hr, hml, hown, hts, ⟨hK, hNw⟩, hlk, hnm, hA, hR, hB⟩ := C
  have L0 := L
  obtain ⟨⟨hxr, hn, hm, hB1, hnm2⟩, hS, hdom, hc1, hs1⟩ := L
  have hcell := hxr.2.2.1 a t ha ht
  have hlt : i.toNatClampNeg < xh_z σ a := Nat.not_le.mp fun q => hin (Or.inr q)
  have hty : ∃ C : String, ArrOfT s (G.2 (t + 2)) (.object C) := by
    match t, ht with
    | 0, _ => exact ⟨_, (xa_K hK (t := 2) rfl).1⟩
    | 1, _ => exact ⟨_, (xa_K hK (t := 3) rfl).1⟩
    | 2, _ => exact ⟨_, (xa_K hK (t := 4) rfl).1⟩
    | 3, _ => exact ⟨_, (xa_K hK (t := 5) rfl).1⟩
    | n + 4, h => exact absurd h (by omega)
  obtain ⟨C, hty⟩ := hty
  exact W.aald hx hb hcell (hty _ _) rfl (fun q => by cases q) (by rw [arrV_size]; exact hin) (by rw [arrV_read _ _ hlt]) rfl rfl hd (kk l B G A p e R s m args below meth c C0 H locs cells slots L0 ls hl)
theorem x_alen {M : xM} {pc : Nat} {lv : List (Nat × Value)} {st : List Value} {σ : xS} {Q : Option Value → xS → Prop} {a t : Nat} (hd : decode (xm_c M) pc = .ok (.arraylength, 1)) (ha : xh_k σ a = t + 9) (ht : t < 6) (kk : xX M (pc + 1) lv (.int (Int32.ofNat (xh_z σ a)) :: st) σ Q) : xX M pc lv (.ref a :: st) σ Q := by
  intro l B G A p e R s m args below meth c C H locs cells slots L ls hl
  have C0 := C
  obtain ⟨hx, hb, hr, hml, hown, hts, ⟨hK, hNw⟩, hlk, hnm, hA, hR, hB⟩ := C
  have L0 := L
  obtain ⟨⟨hxr, hn, hm, hB1, hnm2⟩, hS, hdom, hc1, hs1⟩ := L
  have hc : ∃ (f : Nat → Value) (ty : FieldType), H[a]? = some (arrV (G.2 t) (xh_z σ a) f) ∧ ArrOfT s (G.2 t) ty := by
    match t, ht with
    | 0, _ => exact ⟨_, _, hxr.2.1 a 0 ha (by decide), (xa_K hK (t := 0) rfl).1⟩
    | 1, _ => exact ⟨_, _, hxr.2.1 a 1 ha (by decide), (xa_K hK (t := 1) rfl).1⟩
    | 2, _ => exact ⟨_, _, hxr.2.2.1 a 0 ha (by decide), (xa_K hK (t := 2) rfl).1⟩
    | 3, _ => exact ⟨_, _, hxr.2.2.1 a 1 ha (by decide), (xa_K hK (t := 3) rfl).1⟩
    | 4, _ => exact ⟨_, _, hxr.2.2.1 a 2 ha (by decide), (xa_K hK (t := 4) rfl).1⟩
    | 5, _ => exact ⟨_, _, hxr.2.2.1 a 3 ha (by decide), (xa_K hK (t := 5) rfl).1⟩
    | n + 6, h => exact absurd h (by omega)
  obtain ⟨f, ty, hcell, hty⟩ := hc
  exact W.alen hx hb hcell (hty _ _) (by rw [arrV_size]) rfl rfl hd (kk l B G A p e R s m args below meth c C0 H locs cells slots L0 ls hl)
theorem x_iast {M : xM} {pc : Nat} {lv : List (Nat × Value)} {st : List Value} {σ : xS} {Q : Option Value → xS → Prop} {a : Nat} {i x : Int32} (hd : decode (xm_c M) pc = .ok (.iastore, 1)) (ha : xh_k σ a = 9) (hin : vp_in i (xh_z σ a))  (kk : xX M (pc + 1) lv st (xs_a σ a i.toNatClampNeg x) Q) : xX M pc lv (.int x :: .int i :: .ref a :: st) σ Q := by
  intro l B G A p e R s m args below meth c C H locs cells slots L ls hl
  have C0 := C
  obtain ⟨hx, hb, hr, hml, hown, hts, ⟨hK, hNw⟩, hlk, hnm, hA, hR, hB⟩ := C
  have L0 := L
  obtain ⟨⟨hxr, hn, hm, hB1, hnm2⟩, hS, hdom, hc1, hs1⟩ := L
  have hcell := hxr.2.1 a 0 ha (by decide)
  refine W.iast hx hb hcell ((xa_K hK (t := 0) rfl).1 _ _) (fun q => by cases q) (by rw [arrV_size]; exact hin) rfl rfl hd fun H2 e1 e2 e3 => ?_
  have hne : ∀ b j, b ≠ a → xh_a (xs_a σ a i.toNatClampNeg x) b j = xh_a σ b j := fun b j h => by
    show xu_2 (xh_a σ) a i.toNatClampNeg x b j = _
    unfold xu_2
    rw [if_neg (fun z => h z.1)]
  refine kk l B G A p e R s m args below meth c C0 H2 _ cells slots ⟨⟨xr_upd hxr e2 e3 rfl rfl (fun _ _ _ _ _ _ => rfl) hne (fun _ _ _ => rfl) (fun cj hc h8 => ?_) (fun t2 ht2 _ => ?_) (fun t2 ht2 _ => ?_), by rw [e2]; exact hn, hm, hB1, hnm2⟩, hS.put e2 e3 (hdom a (by rw [ha]; decide)), hdom, by rw [e2]; exact hc1, by rw [e2]; exact hs1⟩ ls hl
  · rw [ha] at hc; omega
  · have : t2 = 0 := by rw [ha] at ht2; omega
    subst this
    rw [e1, arrV_store]
    congr 2
    funext j
    show updV _ _ _ j = Value.int (xu_2 (xh_a σ) a i.toNatClampNeg x a j)
    unfold updV xu_2
    by_cases hj : j = i.toNatClampNeg
    · simp [hj]
    · simp [hj]
  · rw [ha] at ht2; omega
theorem x_zast {M : xM} {pc : Nat} {lv : List (Nat × Value)} {st : List Value} {σ : xS} {Q : Option Value → xS → Prop} {a : Nat} {i x : Int32} (hd : decode (xm_c M) pc = .ok (.bastore, 1)) (ha : xh_k σ a = 10) (hin : vp_in i (xh_z σ a)) (hz : x = 0 ∨ x = 1) (kk : xX M (pc + 1) lv st (xs_a σ a i.toNatClampNeg x) Q) : xX M pc lv (.int x :: .int i :: .ref a :: st) σ Q := by
  intro l B G A p e R s m args below meth c C H locs cells slots L ls hl
  have C0 := C
  obtain ⟨hx, hb, hr, hml, hown, hts, ⟨hK, hNw⟩, hlk, hnm, hA, hR, hB⟩ := C
  have L0 := L
  obtain ⟨⟨hxr, hn, hm, hB1, hnm2⟩, hS, hdom, hc1, hs1⟩ := L
  have hcell := hxr.2.1 a 1 ha (by decide)
  refine W.zast hx hb hcell ((xa_K hK (t := 1) rfl).1 _ _) (fun q => by cases q) (by rw [arrV_size]; exact hin) rfl rfl hd fun H2 e1 e2 e3 => ?_
  have hne : ∀ b j, b ≠ a → xh_a (xs_a σ a i.toNatClampNeg x) b j = xh_a σ b j := fun b j h => by
    show xu_2 (xh_a σ) a i.toNatClampNeg x b j = _
    unfold xu_2
    rw [if_neg (fun z => h z.1)]
  refine kk l B G A p e R s m args below meth c C0 H2 _ cells slots ⟨⟨xr_upd hxr e2 e3 rfl rfl (fun _ _ _ _ _ _ => rfl) hne (fun _ _ _ => rfl) (fun cj hc h8 => ?_) (fun t2 ht2 _ => ?_) (fun t2 ht2 _ => ?_), by rw [e2]; exact hn, hm, hB1, hnm2⟩, hS.put e2 e3 (hdom a (by rw [ha]; decide)), hdom, by rw [e2]; exact hc1, by rw [e2]; exact hs1⟩ ls hl
  · rw [ha] at hc; omega
  · have : t2 = 1 := by rw [ha] at ht2; omega
    subst this
    rw [e1, arrV_store]
    congr 2
    funext j
    show updV _ _ _ j = Value.int (xu_2 (xh_a σ) a i.toNatClampNeg x a j)
    unfold updV xu_2
    by_cases hj : j = i.toNatClampNeg
    · simp [hj]; rcases hz with rfl | rfl <;> rfl
    · simp [hj]
  · rw [ha] at ht2; omega
theorem x_aast {M : xM} {pc : Nat} {lv : List (Nat × Value)} {st : List Value} {σ : xS} {Q : Option Value → xS → Prop} {a t v : Nat} {i : Int32} (hd : decode (xm_c M) pc = .ok (.aastore, 1)) (ha : xh_k σ a = t + 11) (ht : t < 4) (hv : xh_k σ v = xa_c t + 1) (hin : vp_in i (xh_z σ a)) (kk : xX M (pc + 1) lv st (xs_q σ a i.toNatClampNeg (some v)) Q) : xX M pc lv (.ref v :: .int i :: .ref a :: st) σ Q := by
  intro l B G A p e R s m args below meth c C H locs cells slots L ls hl
  have C0 := C
  obtain ⟨hx, hb, hr, hml, hown, hts, ⟨hK, hNw⟩, hlk, hnm, hA, hR, hB⟩ := C
  have L0 := L
  obtain ⟨⟨hxr, hn, hm, hB1, hnm2⟩, hS, hdom, hc1, hs1⟩ := L
  have hcell := hxr.2.2.1 a t ha ht
  have hlt : i.toNatClampNeg < xh_z σ a := Nat.not_le.mp fun q => hin (Or.inr q)
  have h0 : ¬ i < 0 := fun q => hin (Or.inl q)
  have hct : xa_c t < 8 := by unfold xa_c; split <;> decide
  obtain ⟨cellV, g1, g2, g3, -⟩ := hxr.1 v (xa_c t) hv hct
  have hcls := (hK.1 (xa_c t) _ (xf_cl hct)).2
  have hra : va_RA s (G.2 (t + 2)) (.object (xf_C (xa_c t))) := by
    match t, ht with
    | 0, _ => exact (xa_K hK (t := 2) rfl).2
    | 1, _ => exact (xa_K hK (t := 3) rfl).2
    | 2, _ => exact (xa_K hK (t := 4) rfl).2
    | 3, _ => exact (xa_K hK (t := 5) rfl).2
    | n + 4, h => exact absurd h (by omega)
  obtain ⟨kA, comp, k1, k2, k3, -⟩ := hra
  have hcomp : comp = G.1.1 (xa_c t) := Option.some.inj (k3.symm.trans hcls.1)
  subst hcomp
  obtain ⟨kC, hkC, hkind⟩ := hcls.2
  refine W.aast hx hb hcell (fun q h => by cases h) (fun h => by cases h) k1 k2 rfl hkC ⟨h0, by rw [arrV_size]; exact hlt⟩ g1 (fun q h => by rw [g3] at h; cases h) (by rw [g2]; exact hkC) (by rw [g2]; exact va_assign hcls) rfl rfl hd fun H2 e1 e2 e3 => ?_
  have hne : ∀ b j, b ≠ a → xh_q (xs_q σ a i.toNatClampNeg (some v)) b j = xh_q σ b j := fun b j h => by
    show xu_2 (xh_q σ) a i.toNatClampNeg (some v) b j = _
    unfold xu_2
    rw [if_neg (fun z => h z.1)]
  refine kk l B G A p e R s m args below meth c C0 H2 _ cells slots ⟨⟨xr_upd hxr e2 e3 rfl rfl (fun _ _ _ _ _ _ => rfl) (fun _ _ _ => rfl) hne (fun cj hc h8 => ?_) (fun t2 ht2 h3 => ?_) (fun t2 ht2 _ => ?_), by rw [e2]; exact hn, hm, hB1, hnm2⟩, hS.put e2 e3 (hdom a (by rw [ha]; omega)), hdom, by rw [e2]; exact hc1, by rw [e2]; exact hs1⟩ ls hl
  · rw [ha] at hc; omega
  · rw [ha] at ht2; omega
  · have : t2 = t := by rw [ha] at ht2; omega
    subst this
    rw [e1, arrV_store]
    congr 2
    funext j
    show updV _ _ _ j = va_rf (xu_2 (xh_q σ) a i.toNatClampNeg (some v) a j)
    unfold updV xu_2
    by_cases hj : j = i.toNatClampNeg
    · simp [hj, va_rf]
    · simp [hj]
theorem xr_push {G : xG} {σ σ2 : xS} {H H2 : Heap} (h : xr G σ H) (hn : H.size = xh_n σ) (hz : H2.size = H.size + 1) (ho : ∀ q, q < H.size → H2[q]? = H[q]?) {kd : Nat} (hkd : kd < 15) (hk : xh_k σ2 = va_up (xh_k σ) (xh_n σ) kd) (hzz : ∀ b, b ≠ xh_n σ → xh_z σ2 b = xh_z σ b)
    (hf : ∀ ci j b, b ≠ xh_n σ → ci < 8 → j < xf_N ci → xf_v σ2 ci j b = xf_v σ ci j b) (ha1 : ∀ b j, b ≠ xh_n σ → xh_a σ2 b j = xh_a σ b j) (hq : ∀ b j, b ≠ xh_n σ → xh_q σ2 b j = xh_q σ b j)
    (n1 : ∀ ci, kd = ci + 1 → ci < 8 → t_OB (xh_n σ) (G.1.1 ci) (xf_N ci) (G.1.2 ci) H2 (fun j => xf_v σ2 ci j (xh_n σ)))
    (n2 : ∀ t, kd = t + 9 → t < 2 → H2[xh_n σ]? = some (arrV (G.2 t) (xh_z σ2 (xh_n σ)) (fun j => .int (xh_a σ2 (xh_n σ) j))))
    (n3 : ∀ t, kd = t + 11 → t < 4 → H2[xh_n σ]? = some (arrV (G.2 (t + 2)) (xh_z σ2 (xh_n σ)) (fun j => va_rf (xh_q σ2 (xh_n σ) j)))) : xr G σ2 H2 := by
  obtain ⟨h1, h2, h3, h4, h5⟩ := h
  have hks : xh_k σ2 (xh_n σ) = kd := by rw [hk]; simp [va_up]
  have hkn : ∀ b, b ≠ xh_n σ → xh_k σ2 b = xh_k σ b := fun b e => by rw [hk]; simp [va_up, e]
  have hlt : ∀ b, xh_k σ b ≠ 0 → H2[b]? = H[b]? := fun b hb => ho b (h5 b hb)
  refine ⟨fun b ci hb hc => ?_, fun b t hb ht => ?_, fun b t hb ht => ?_, fun b => ?_, fun b hb => ?_⟩
  · by_cases e : b = xh_n σ
    · subst e; exact n1 ci (hks.symm.trans hb) hc
    · rw [hkn b e] at hb
      exact ((h1 b ci hb hc).kept (hlt b (by omega))).to (fun k hk' => (hf ci k b e hc hk').symm)
  · by_cases e : b = xh_n σ
    · subst e; exact n2 t (hks.symm.trans hb) ht
    · rw [hkn b e] at hb
      rw [hlt b (by omega), h2 b t hb ht, hzz b e]
      have : (fun j => Value.int (xh_a σ2 b j)) = (fun j => Value.int (xh_a σ b j)) := funext fun j => by rw [ha1 b j e]
      rw [this]
  · by_cases e : b = xh_n σ
    · subst e; exact n3 t (hks.symm.trans hb) ht
    · rw [hkn b e] at hb
      rw [hlt b (by omega), h3 b t hb ht, hzz b e]
      have : (fun j => va_rf (xh_q σ2 b j)) = (fun j => va_rf (xh_q σ b j)) := funext fun j => by rw [hq b j e]
      rw [this]
  · by_cases e : b = xh_n σ
    · subst e; rw [hks]; exact hkd
    · rw [hkn b e]; exact h4 b
  · by_cases e : b = xh_n σ
    · omega
    · rw [hkn b e] at hb
      have := h5 b hb
      omega
theorem xf_nf : ∀ ci, ci < 8 → ∀ j, j < xf_N ci → xf_ty ci j ≠ .float ∧ xf_ty ci j ≠ .double := by decide +kernel
theorem xf_dv {σ : xS} {ci j : Nat} (hc : ci < 8) (hj : j < xf_N ci) : defaultValue (xf_ty ci j) = xf_v (xs_new σ ci) ci j (xh_n σ) := by
  have e1 : xh_R (xs_new σ ci) (64 * ci + j) (xh_n σ) = none := by show (if xh_n σ = xh_n σ then none else _) = none; simp
  have e2 : xh_L (xs_new σ ci) (64 * ci + j) (xh_n σ) = 0 := by show (if xh_n σ = xh_n σ then 0 else _) = (0 : Int64); simp
  have e3 : xh_I (xs_new σ ci) (64 * ci + j) (xh_n σ) = 0 := by show (if xh_n σ = xh_n σ then 0 else _) = (0 : Int32); simp
  have hn := xf_nf ci hc j hj
  unfold xf_v
  rw [e1, e2, e3]
  cases h : xf_ty ci j <;> rw [h] at hn <;> first | rfl | exact absurd rfl hn.1 | exact absurd rfl hn.2
theorem x_new {M : xM} {pc : Nat} {lv : List (Nat × Value)} {st : List Value} {σ : xS} {Q : Option Value → xS → Prop} {idx ci : Nat} (hd : decode (xm_c M) pc = .ok (.new idx, 3)) (hci : ci < 8) (h1 : Cond.classLink (xm_y M).cls idx (xf_C ci) ∈ xTb) (h2 : Cond.instantiable (xf_C ci) (xf_N ci) ∈ xTb) (h3 : Cond.initialized (xf_C ci) ∈ xTb) (hroom : xh_n σ < xh_m σ) (kk : xX M (pc + 3) lv (.ref (xh_n σ) :: st) (xs_new σ ci) Q) : xX M pc lv st σ Q := by
  intro l B G A p e R s m args below meth c C H locs cells slots L ls hl
  have C0 := C
  obtain ⟨hx, hb, hr, hml, hown, hts, ⟨hK, hNw⟩, hlk, hnm, hA, hR, hB⟩ := C
  have L0 := L
  obtain ⟨⟨hxr, hn, hm, hB1, hnm2⟩, hS, hdom, hc1, hs1⟩ := L
  have hKn := hK.1 ci _ (xf_cl hci)
  have hN := @xf_N64 ci
  have hin : ∀ w ∈ u_ws (xf_C ci) (xf_T ci) (xf_N ci), w ∈ xW M := fun w h => List.mem_cons_of_mem _ (xf_in hci w h)
  have hRc : R.cells = B.1 + 18000 - s.heap.size := by rw [hR]
  have hRs : R.slots = B.2 + 7200000 - xtot s.heap := by rw [hR]
  refine W.newcK hx hb hown (hts _ (List.mem_cons_of_mem _ h1)) (hts _ (List.mem_cons_of_mem _ h2)) (hts _ (List.mem_cons_of_mem _ h3)) rfl hd (by rw [hRc]; omega) (by rw [hRs]; omega) hKn.2.1 hn fun H2 kC hkC e1 z1 o1 => ?_
  refine kk l B G A p e R s m args below meth c C0 H2 locs (cells + 1) (slots + xf_N ci) ⟨⟨xr_push hxr hn (by omega) (fun q h => o1 q (by omega)) (kd := ci + 1) (by omega) rfl (fun _ _ => rfl) (fun cj j b hb _ _ => ?_) (fun _ _ _ => rfl) (fun _ _ _ => rfl) (fun cj hcj h8 => ?_) (fun t ht _ => by omega) (fun t ht _ => by omega), ?_, hm, ?_, ?_⟩, ⟨by have := hS.1; omega, fun q h4 h5 => (o1 q (by have := hS.1; omega)).trans (hS.2.1 q h4 h5), hS.2.2⟩, fun b hb => ?_, by omega, by omega⟩ ls hl
  · unfold xf_v
    show (if _ then va_rf (if b = xh_n σ then none else _) else if _ then Value.long (if b = xh_n σ then 0 else _) else Value.int (if b = xh_n σ then 0 else _)) = _
    rw [if_neg hb, if_neg hb, if_neg hb]
  · have : cj = ci := by omega
    subst this
    exact (u_born (xf_ty cj) hts hin hKn hkC e1 (xf_tyok hci)).to (fun j hj => xf_dv hci hj)
  · show H2.size = xh_n σ + 1
    omega
  · show B.1 ≤ xh_n σ + 1
    omega
  · show xh_n σ + 1 ≤ xh_m σ
    omega
  · by_cases e : b = xh_n σ
    · exact hA b (by have := hS.1; omega)
    · exact hdom b (by have : xh_k (xs_new σ ci) b = xh_k σ b := by (show va_up (xh_k σ) (xh_n σ) (ci + 1) b = _); simp [va_up, e]
                       rw [← this]; exact hb)
theorem x_newI {M : xM} {pc : Nat} {lv : List (Nat × Value)} {st : List Value} {σ : xS} {Q : Option Value → xS → Prop} {n : Int32} (hd : decode (xm_c M) pc = .ok (.newarray .int, 2)) (h1 : Cond.arrayClass .int ∈ xTb) (hroom : xh_n σ < xh_m σ) (hn0 : ¬ n < 0) (hn4 : n.toNatClampNeg ≤ 400) (kk : xX M (pc + 2) lv (.ref (xh_n σ) :: st) (xs_arr σ 9 n.toNatClampNeg) Q) : xX M pc lv (.int n :: st) σ Q := by
  intro l B G A p e R s m args below meth c C H locs cells slots L ls hl
  have C0 := C
  obtain ⟨hx, hb, hr, hml, hown, hts, ⟨hK, hNw⟩, hlk, hnm, hA, hR, hB⟩ := C
  have L0 := L
  obtain ⟨⟨hxr, hn, hm, hB1, hnm2⟩, hS, hdom, hc1, hs1⟩ := L
  have hRc : R.cells = B.1 + 18000 - s.heap.size := by rw [hR]
  have hRs : R.slots = B.2 + 7200000 - xtot s.heap := by rw [hR]
  refine va_newaK hx hb (atype := .int) (hts _ (List.mem_cons_of_mem _ h1)) rfl hd rfl hn0 rfl (by simp only [newarray.typeOf, componentBytes]; omega) (by rw [hRc]; omega) (by rw [hRs]; omega) hn fun H2 cA e1 z1 o1 hAr hNm => ?_
  refine kk l B G A p e R s m args below meth c C0 H2 locs (cells + 1) (slots + n.toNatClampNeg) ⟨⟨xr_push hxr hn (by omega) (fun q h => o1 q (by omega)) (kd := 9) (by omega) rfl (fun b hb => ?_) (fun cj j b hb _ _ => rfl) (fun b j hb => ?_) (fun b j hb => ?_) (fun cj hcj h8 => by omega) (fun t ht h4 => ?_) (fun t ht h4 => ?_), ?_, hm, ?_, ?_⟩, ⟨by have := hS.1; omega, fun q h4 h5 => (o1 q (by have := hS.1; omega)).trans (hS.2.1 q h4 h5), hS.2.2⟩, fun b hb => ?_, by omega, by omega⟩ ls hl
  · show va_up (xh_z σ) (xh_n σ) n.toNatClampNeg b = _
    simp [va_up, hb]
  · show (if b = xh_n σ then 0 else _) = _
    rw [if_neg hb]
  · show (if b = xh_n σ then none else _) = _
    rw [if_neg hb]
  · have : t = 0 := by omega
    subst this
    have hz2 : xh_z (xs_arr σ 9 n.toNatClampNeg) (xh_n σ) = n.toNatClampNeg := by (show va_up (xh_z σ) (xh_n σ) n.toNatClampNeg (xh_n σ) = _); simp [va_up]
    have ha2 : ∀ j, xh_a (xs_arr σ 9 n.toNatClampNeg) (xh_n σ) j = 0 := fun j => by (show (if xh_n σ = xh_n σ then 0 else _) = (0 : Int32)); simp
    have hcA : cA = G.2 0 := Option.some.inj (hNm.symm.trans (xa_K hK (t := 0) rfl).2)
    rw [hz2, ← hcA]
    simp only [ha2]
    exact e1
  · omega
  · show H2.size = xh_n σ + 1
    omega
  · show B.1 ≤ xh_n σ + 1
    omega
  · show xh_n σ + 1 ≤ xh_m σ
    omega
  · by_cases e : b = xh_n σ
    · exact hA b (by have := hS.1; omega)
    · exact hdom b (by have : xh_k (xs_arr σ (9) n.toNatClampNeg) b = xh_k σ b := by (show va_up (xh_k σ) (xh_n σ) (9) b = _); simp [va_up, e]
                       rw [← this]; exact hb)
theorem x_newZ {M : xM} {pc : Nat} {lv : List (Nat × Value)} {st : List Value} {σ : xS} {Q : Option Value → xS → Prop} {n : Int32} (hd : decode (xm_c M) pc = .ok (.newarray .boolean, 2)) (h1 : Cond.arrayClass .boolean ∈ xTb) (hroom : xh_n σ < xh_m σ) (hn0 : ¬ n < 0) (hn4 : n.toNatClampNeg ≤ 400) (kk : xX M (pc + 2) lv (.ref (xh_n σ) :: st) (xs_arr σ 10 n.toNatClampNeg) Q) : xX M pc lv (.int n :: st) σ Q := by
  intro l B G A p e R s m args below meth c C H locs cells slots L ls hl
  have C0 := C
  obtain ⟨hx, hb, hr, hml, hown, hts, ⟨hK, hNw⟩, hlk, hnm, hA, hR, hB⟩ := C
  have L0 := L
  obtain ⟨⟨hxr, hn, hm, hB1, hnm2⟩, hS, hdom, hc1, hs1⟩ := L
  have hRc : R.cells = B.1 + 18000 - s.heap.size := by rw [hR]
  have hRs : R.slots = B.2 + 7200000 - xtot s.heap := by rw [hR]
  refine va_newaK hx hb (atype := .boolean) (hts _ (List.mem_cons_of_mem _ h1)) rfl hd rfl hn0 rfl (by simp only [newarray.typeOf, componentBytes]; omega) (by rw [hRc]; omega) (by rw [hRs]; omega) hn fun H2 cA e1 z1 o1 hAr hNm => ?_
  refine kk l B G A p e R s m args below meth c C0 H2 locs (cells + 1) (slots + n.toNatClampNeg) ⟨⟨xr_push hxr hn (by omega) (fun q h => o1 q (by omega)) (kd := 10) (by omega) rfl (fun b hb => ?_) (fun cj j b hb _ _ => rfl) (fun b j hb => ?_) (fun b j hb => ?_) (fun cj hcj h8 => by omega) (fun t ht h4 => ?_) (fun t ht h4 => ?_), ?_, hm, ?_, ?_⟩, ⟨by have := hS.1; omega, fun q h4 h5 => (o1 q (by have := hS.1; omega)).trans (hS.2.1 q h4 h5), hS.2.2⟩, fun b hb => ?_, by omega, by omega⟩ ls hl
  · show va_up (xh_z σ) (xh_n σ) n.toNatClampNeg b = _
    simp [va_up, hb]
  · show (if b = xh_n σ then 0 else _) = _
    rw [if_neg hb]
  · show (if b = xh_n σ then none else _) = _
    rw [if_neg hb]
  · have : t = 1 := by omega
    subst this
    have hz2 : xh_z (xs_arr σ 10 n.toNatClampNeg) (xh_n σ) = n.toNatClampNeg := by (show va_up (xh_z σ) (xh_n σ) n.toNatClampNeg (xh_n σ) = _); simp [va_up]
    have ha2 : ∀ j, xh_a (xs_arr σ 10 n.toNatClampNeg) (xh_n σ) j = 0 := fun j => by (show (if xh_n σ = xh_n σ then 0 else _) = (0 : Int32)); simp
    have hcA : cA = G.2 1 := Option.some.inj (hNm.symm.trans (xa_K hK (t := 1) rfl).2)
    rw [hz2, ← hcA]
    simp only [ha2]
    exact e1
  · omega
  · show H2.size = xh_n σ + 1
    omega
  · show B.1 ≤ xh_n σ + 1
    omega
  · show xh_n σ + 1 ≤ xh_m σ
    omega
  · by_cases e : b = xh_n σ
    · exact hA b (by have := hS.1; omega)
    · exact hdom b (by have : xh_k (xs_arr σ (10) n.toNatClampNeg) b = xh_k σ b := by (show va_up (xh_k σ) (xh_n σ) (10) b = _); simp [va_up, e]
                       rw [← this]; exact hb)
theorem x_newQ {M : xM} {pc : Nat} {lv : List (Nat × Value)} {st : List Value} {σ : xS} {Q : Option Value → xS → Prop} {n : Int32} {idx t0 : Nat} (hd : decode (xm_c M) pc = .ok (.anewarray idx, 3)) (ht0 : t0 < 4) (h1 : Cond.classLink (xm_y M).cls idx (xf_C (xa_c t0)) ∈ xTb) (hroom : xh_n σ < xh_m σ) (hn0 : ¬ n < 0) (hn4 : n.toNatClampNeg ≤ 400) (kk : xX M (pc + 3) lv (.ref (xh_n σ) :: st) (xs_arr σ (t0 + 11) n.toNatClampNeg) Q) : xX M pc lv (.int n :: st) σ Q := by
  intro l B G A p e R s m args below meth c C H locs cells slots L ls hl
  have C0 := C
  obtain ⟨hx, hb, hr, hml, hown, hts, ⟨hK, hNw⟩, hlk, hnm, hA, hR, hB⟩ := C
  have L0 := L
  obtain ⟨⟨hxr, hn, hm, hB1, hnm2⟩, hS, hdom, hc1, hs1⟩ := L
  have hRc : R.cells = B.1 + 18000 - s.heap.size := by rw [hR]
  have hRs : R.slots = B.2 + 7200000 - xtot s.heap := by rw [hR]
  refine W.anew hx hb hown (hts _ (List.mem_cons_of_mem _ h1)) (va_AO.use (hNw.2 t0 ht0)) rfl hd rfl hn0 (by omega) (by rw [hRc]; omega) (by rw [hRs]; omega) fun cA kA comp f1 f2 f3 f4 => ?_
  generalize hH2 : H.push ({ cls := cA, slots := Array.replicate n.toNatClampNeg .null, vm := .none } : Cell) = H2
  have z1 : H2.size = H.size + 1 := by rw [← hH2, Array.size_push]
  have e1 : H2[H.size]? = some (arrV cA n.toNatClampNeg (fun _ => .null)) := by rw [← hH2, Array.getElem?_push_size, ← arrV_new]
  have o1 : ∀ q : Nat, q < H.size → H2[q]? = H[q]? := fun q hq => by rw [← hH2, Array.getElem?_push, if_neg (Nat.ne_of_lt hq)]
  rw [hn]
  refine kk l B G A p e R s m args below meth c C0 H2 locs (cells + 1) (slots + n.toNatClampNeg) ⟨⟨xr_push hxr hn (by omega) (fun q h => o1 q (by omega)) (kd := t0 + 11) (by omega) rfl (fun b hb => ?_) (fun cj j b hb _ _ => rfl) (fun b j hb => ?_) (fun b j hb => ?_) (fun cj hcj h8 => by omega) (fun t ht h4 => ?_) (fun t ht h4 => ?_), ?_, hm, ?_, ?_⟩, ⟨by have := hS.1; omega, fun q h4 h5 => (o1 q (by have := hS.1; omega)).trans (hS.2.1 q h4 h5), hS.2.2⟩, fun b hb => ?_, by omega, by omega⟩ ls hl
  · show va_up (xh_z σ) (xh_n σ) n.toNatClampNeg b = _
    simp [va_up, hb]
  · show (if b = xh_n σ then 0 else _) = _
    rw [if_neg hb]
  · show (if b = xh_n σ then none else _) = _
    rw [if_neg hb]
  · omega
  · have : t = t0 := by omega
    subst this
    have hz2 : xh_z (xs_arr σ (t + 11) n.toNatClampNeg) (xh_n σ) = n.toNatClampNeg := by (show va_up (xh_z σ) (xh_n σ) n.toNatClampNeg (xh_n σ) = _); simp [va_up]
    have ha2 : ∀ j, xh_q (xs_arr σ (t + 11) n.toNatClampNeg) (xh_n σ) j = none := fun j => by (show (if xh_n σ = xh_n σ then none else _) = (none : Option Nat)); simp
    have hra : s.vm.findClass ("[" ++ (FieldType.object (xf_C (xa_c t))).toString) = some (G.2 (t + 2)) := by
      match t, h4 with
      | 0, _ => obtain ⟨_, _, _, _, _, h⟩ := (xa_K hK (t := 2) rfl).2; exact h
      | 1, _ => obtain ⟨_, _, _, _, _, h⟩ := (xa_K hK (t := 3) rfl).2; exact h
      | 2, _ => obtain ⟨_, _, _, _, _, h⟩ := (xa_K hK (t := 4) rfl).2; exact h
      | 3, _ => obtain ⟨_, _, _, _, _, h⟩ := (xa_K hK (t := 5) rfl).2; exact h
      | n + 4, h => exact absurd h (by omega)
    have hcA : cA = G.2 (t + 2) := Option.some.inj (f1.symm.trans hra)
    rw [hz2, ← hcA]
    simp only [ha2]
    rw [hn] at e1
    exact e1
  · show H2.size = xh_n σ + 1
    omega
  · show B.1 ≤ xh_n σ + 1
    omega
  · show xh_n σ + 1 ≤ xh_m σ
    omega
  · by_cases e : b = xh_n σ
    · exact hA b (by have := hS.1; omega)
    · exact hdom b (by have : xh_k (xs_arr σ (t0 + 11) n.toNatClampNeg) b = xh_k σ b := by (show va_up (xh_k σ) (xh_n σ) (t0 + 11) b = _); simp [va_up, e]
                       rw [← this]; exact hb)
