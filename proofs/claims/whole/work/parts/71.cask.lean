/-! The class asks -/
theorem c_known {x : Nat} {σ : xS} {S : zS} {g : zG} {B : Nat → List Nat} {q : Nat} {h : Int32} {Q : Int32 → Prop} (hR : RC x σ S g B) (hq : q < z_N S 1) (h0 : ¬ (z_F S 9 q = h ∨ z_F S 10 q = h) → Q 0) (h1 : (z_F S 9 q = h ∨ z_F S 10 q = h) → Q 1) : wp_X2_isKnownIn σ (gM g q + 1) h Q := by
  have r9 : xh_I σ 129 (gM g q + 1) = z_F S 9 q := rI hR 9 q (by decide) hq
  have r10 : xh_I σ 130 (gM g q + 1) = z_F S 10 q := rI hR 10 q (by decide) hq
  unfold wp_X2_isKnownIn
  rw [r9, r10]
  exact ⟨fun e => ⟨Or.inr rfl, h1 (Or.inl e.symm)⟩, fun n9 => ⟨fun e => ⟨Or.inr rfl, h1 (Or.inr e.symm)⟩, fun n10 => ⟨Or.inl rfl, h0 (fun z => z.elim (fun z => n9 z.symm) (fun z => n10 z.symm))⟩⟩⟩
theorem nask_N {S : zS} {h g : Nat} {act n o : Int32} : z_N (z_nask S h g act n o) = va_up (z_N S) 1 (z_N S 1 + 1) := rfl
theorem nask_N0 {S : zS} {h g : Nat} {act n o : Int32} : z_N (z_nask S h g act n o) 0 = z_N S 0 := rfl
theorem nask_N1 {S : zS} {h g : Nat} {act n o : Int32} : z_N (z_nask S h g act n o) 1 = z_N S 1 + 1 := rfl
theorem nask_N2 {S : zS} {h g : Nat} {act n o : Int32} : z_N (z_nask S h g act n o) 2 = z_N S 2 := rfl
theorem nask_u {S : zS} {h g : Nat} {act n o : Int32} : z_u (z_nask S h g act n o) = z_u S := by
  simp only [z_nask, F_u]
  rfl
theorem nask_r {S : zS} {h g : Nat} {act n o : Int32} : z_r (z_nask S h g act n o) = z_r S := by
  simp only [z_nask, F_r]
  rfl
theorem nask_W {S : zS} {h g : Nat} {act n o : Int32} : z_W (z_nask S h g act n o) = z_W S := by
  simp only [z_nask, F_W]
  rfl
theorem nask_H {S : zS} {h g : Nat} {act n o : Int32} : z_H (z_nask S h g act n o) = z_H S := by
  simp only [z_nask, F_H]
  rfl
theorem nask_Q {S : zS} {h g : Nat} {act n o : Int32} : z_Q (z_nask S h g act n o) = z_Q S := by
  simp only [z_nask, F_Q]
  rfl
theorem nask_D {S : zS} {h g : Nat} {act n o : Int32} : z_D (z_nask S h g act n o) = z_D S := by
  simp only [z_nask, F_D]
  rfl
theorem Q_out {S : zS} (hI : zI S) {t : Nat} (ht : z_N S 1 ≤ t) : z_Q S t = [] := by
  cases e : z_Q S t with
  | nil => rfl
  | cons a l =>
    have := (hI.2.2.2.2.2.2.1 t a (by rw [e]; exact List.mem_cons_self)).1
    omega
theorem c_ask108 {x : Nat} {σ : xS} {S : zS} {g : zG} {B : Nat → List Nat} {a y : Nat} {n o : Int32} {th pr l9 : Option Nat} {Q : Int32 → xS → Prop} (hR : RC x σ S g B) (hJ : zJ S) (hA : zAk S a y o th pr) (hl9 : y = 4 → l9 = zO g o) (kk : ∀ σ2 g2 B2, RC x σ2 (z_ask S a (nI y) n o th pr) g2 B2 → Q (nI (z_N S 1)) σ2) : wb_X6_ask_108 Q σ x (nI a) (nI y) n (zOT g th) (zOP g pr) l9 := by
  have hI := hJ.1
  have b := hI.1.1
  have hg4 := g_lt hI hA
  obtain ⟨i1, i2, i3⟩ := I_ask1 (n := n) hI hA
  obtain ⟨h1, h2, h3, h4, h5⟩ := id hA
  have hc1 : xh_I σ 390 x = nI (z_N S 1) := hR.1.2.2.1
  obtain ⟨d1, d2, d3, d4, d5, d6, d7, d8, d9⟩ := hR.2.2.2.1
  have hps : z_ps S ≤ z_N S 2 := by
    unfold z_ps
    exact Nat.le_trans (List.length_filter_le _ _) (by rw [List.length_range]; exact Nat.le_refl _)
  have huse : z_used S + 3 ≤ 460 := by unfold z_used; omega
  unfold wb_X6_ask_108
  rw [hc1, show (100 : Int32) = nI 100 from rfl, nlt (by omega) (by omega)]
  refine ⟨fun _ => ?_, fun z => absurd h4 z⟩
  refine ⟨by omega, fun σ1 e1 => ?_⟩
  obtain ⟨ag1, n1, kk1, i1', r1'⟩ := ag_new e1
  unfold wp_X1_init
  intro σ2 e2 σ3 e3 σ4 e4
  have K4 : xh_k σ4 = xh_k σ1 := by rw [e4, e3, e2]; rfl
  have N4 : xh_n σ4 = xh_n σ1 := by rw [e4, e3, e2]; rfl
  have M4 : xh_m σ4 = xh_m σ1 := by rw [e4, e3, e2]; rfl
  have L4 : xh_L σ4 = xh_L σ1 := by rw [e4, e3, e2]; rfl
  have Q4 : xh_q σ4 = xh_q σ1 := by rw [e4, e3, e2]; rfl
  have Z4 : xh_z σ4 = xh_z σ1 := by rw [e4, e3, e2]; rfl
  have I4 : ∀ f c, xh_I σ4 f c = if f = 66 ∧ c = xh_n σ then n else if f = 65 ∧ c = xh_n σ then nI y else xh_I σ1 f c := fun f c => by rw [e4, show xh_I (xs_R σ3 67 (xh_n σ) l9) = xh_I σ3 from rfl, e3, xI2, e2, xI2]
  have R4 : ∀ f c, xh_R σ4 f c = if f = 67 ∧ c = xh_n σ then l9 else xh_R σ1 f c := fun f c => by rw [e4, xR2, e3, e2]; rfl
  have old1 : ∀ c, c < xh_n σ → xh_k σ1 c = xh_k σ c := ag1.2.2.1
  refine ⟨xw6_ag hR.1.1 (n := xh_n σ) (by omega) (fun c hc => by rw [K4]; exact old1 c hc) (fun f c hc => by rw [R4, if_neg (by omega)]; exact ag1.2.2.2.2.1 f c hc) (fun c hc => by rw [Z4]; exact ag1.2.2.2.2.2.2.2 c hc), by rw [K4]; exact kk1, ?_⟩
  intro σ7 e7 σ8 e8
  have K8 : xh_k σ8 = xh_k σ1 := by rw [e8, e7]; exact K4
  have N8 : xh_n σ8 = xh_n σ + 1 := by rw [e8, e7]; show xh_n σ4 = _; rw [N4, n1]
  have M8 : xh_m σ8 = xh_m σ := by rw [e8, e7]; show xh_m σ4 = _; rw [M4, ag1.2.1]
  have L8 : xh_L σ8 = xh_L σ1 := by rw [e8, e7]; exact L4
  have Q8 : xh_q σ8 = xh_q σ1 := by rw [e8, e7]; exact Q4
  have Z8 : xh_z σ8 = xh_z σ1 := by rw [e8, e7]; exact Z4
  have I8 : xh_I σ8 = xh_I σ4 := by rw [e8, e7]; rfl
  have R8 : ∀ f c, xh_R σ8 f c = if f = 69 ∧ c = xh_n σ then zOP g pr else if f = 68 ∧ c = xh_n σ then zOT g th else xh_R σ4 f c := fun f c => by rw [e8, xR2, e7, xR2]
  -- where it goes
  have dest : ∀ K : Int32 → Prop, K (nI (za_g S th pr)) → wp_X1_destination σ8 (xh_n σ) K := by
    intro K hK
    unfold wp_X1_destination
    have r68 : xh_R σ8 68 (xh_n σ) = zOT g th := by rw [R8]; simp
    have r69 : xh_R σ8 69 (xh_n σ) = zOP g pr := by rw [R8]; simp
    rw [r68, r69]
    rcases h5 with ⟨t, ht, rfl, rfl⟩ | ⟨q, hq, rfl, rfl⟩
    · refine ⟨fun z => (by cases z), fun a2 z => ?_⟩
      cases z
      have hlt := d1 t ht
      refine ⟨by rw [K8, old1 _ (by omega)]; exact hlt.1, ?_⟩
      have e193 : xh_I σ8 193 (gT g t) = nI (z_hs S t) := by
        rw [I8, I4, if_neg (by omega), if_neg (by omega), ag1.2.2.2.1 _ _ (by omega)]
        exact (rI hR 1 t (by decide) ht : xh_I σ 193 (gT g t) = z_F S 1 t).trans (hI.1.2.1 t ht).1.1
      rw [e193]; exact hK
    · refine ⟨fun _ => ⟨fun z => (by cases z), fun a5 z => ?_⟩, fun a2 z => (by cases z)⟩
      have ea : gM g q + 1 = a5 := by
        have : some (gM g q + 1) = some a5 := z
        exact Option.some.inj this
      subst ea
      have hlt := d2 q hq
      refine ⟨by rw [K8, old1 _ (by omega)]; exact hlt.2.1, ?_⟩
      have e130 : xh_I σ8 130 (gM g q + 1) = nI (z_hm S q) := by
        rw [I8, I4, if_neg (by omega), if_neg (by omega), ag1.2.2.2.1 _ _ (by omega)]
        exact (rI hR 10 q (by decide) hq : xh_I σ 130 (gM g q + 1) = z_F S 10 q).trans (hI.1.2.2.1 q hq).2.1.1
      rw [e130]; exact hK
  refine dest _ ⟨by rw [N8, M8]; omega, fun σ13 e13 => ?_⟩
  obtain ⟨ag13, n13, kk13, i13, r13⟩ := ag_new e13
  rw [N8] at n13 kk13 i13 r13
  have c13 : xh_I σ13 390 x = nI (z_N S 1) := by
    rw [ag13.2.2.2.1 _ _ (by rw [N8]; omega), I8, I4, if_neg (by omega), if_neg (by omega), ag1.2.2.2.1 _ _ (by omega)]; exact hc1
  rw [c13, N8]
  unfold wp_X2_init
  refine ⟨by rw [n13, ag13.2.1, M8]; omega, fun σ14 e14 => ?_⟩
  obtain ⟨ag14, n14, kk14, i14, r14⟩ := ag_new e14
  rw [n13] at n14 kk14 i14 r14
  unfold wp_X0_init
  intro σ15 e15 σ16 e16 σ17 e17 σ18 e18 σ19 e19
  rw [n13] at e15
  -- everything at once, behind the promise's own stores
  have K19 : xh_k σ19 = xh_k σ14 := by rw [e19, e18, e17, e16, e15]; rfl
  have N19 : xh_n σ19 = xh_n σ + 3 := by rw [e19, e18, e17, e16, e15]; show xh_n σ14 = _; rw [n14]
  have M19 : xh_m σ19 = xh_m σ := by rw [e19, e18, e17, e16, e15]; show xh_m σ14 = _; rw [ag14.2.1, ag13.2.1, M8]
  have L19 : xh_L σ19 = xh_L σ14 := by rw [e19, e18, e17, e16, e15]; rfl
  have Q19 : xh_q σ19 = xh_q σ14 := by rw [e19, e18, e17, e16, e15]; rfl
  have Z19 : xh_z σ19 = xh_z σ14 := by rw [e19, e18, e17, e16, e15]; rfl
  have I19 : ∀ f c, xh_I σ19 f c = if f = 130 ∧ c = xh_n σ + 1 then nI (za_g S th pr) else if f = 129 ∧ c = xh_n σ + 1 then nI a else if f = 128 ∧ c = xh_n σ + 1 then nI (z_N S 1) else xh_I σ14 f c := fun f c => by
    rw [e19, show xh_I (xs_R σ18 131 (xh_n σ + 1) (some (xh_n σ))) = xh_I σ18 from rfl, e18, xI2, e17, xI2, e16, xI2, e15]; rfl
  have R19 : ∀ f c, xh_R σ19 f c = if f = 131 ∧ c = xh_n σ + 1 then some (xh_n σ) else if f = 132 ∧ c = xh_n σ + 1 then some (xh_n σ + 2) else xh_R σ14 f c := fun f c => by
    rw [e19, xR2, e18, show xh_R (xs_I σ17 130 (xh_n σ + 1) (nI (za_g S th pr))) = xh_R σ17 from rfl, e17, show xh_R (xs_I σ16 129 (xh_n σ + 1) (nI a)) = xh_R σ16 from rfl, e16, show xh_R (xs_I σ15 128 (xh_n σ + 1) (nI (z_N S 1))) = xh_R σ15 from rfl, e15, xR2]
  have k14old : ∀ c, c < xh_n σ → xh_k σ14 c = xh_k σ c := fun c hc => by rw [ag14.2.2.1 c (by omega), ag13.2.2.1 c (by omega), K8]; exact old1 c hc
  have i14old : ∀ f c, c < xh_n σ → xh_I σ14 f c = xh_I σ f c := fun f c hc => by rw [ag14.2.2.2.1 f c (by omega), ag13.2.2.2.1 f c (by omega), I8, I4, if_neg (by omega), if_neg (by omega), ag1.2.2.2.1 f c hc]
  have r14old : ∀ f c, c < xh_n σ → xh_R σ14 f c = xh_R σ f c := fun f c hc => by rw [ag14.2.2.2.2.1 f c (by omega), ag13.2.2.2.2.1 f c (by omega), R8, if_neg (by omega), if_neg (by omega), R4, if_neg (by omega), ag1.2.2.2.2.1 f c hc]
  have l14old : ∀ f c, c < xh_n σ → xh_L σ14 f c = xh_L σ f c := fun f c hc => by rw [ag14.2.2.2.2.2.1 f c (by omega), ag13.2.2.2.2.2.1 f c (by omega), L8, ag1.2.2.2.2.2.1 f c hc]
  have q14old : ∀ c i, c < xh_n σ → xh_q σ14 c i = xh_q σ c i := fun c i hc => by rw [ag14.2.2.2.2.2.2.1 c i (by omega), ag13.2.2.2.2.2.2.1 c i (by omega), Q8, ag1.2.2.2.2.2.2.1 c i hc]
  have z14old : ∀ c, c < xh_n σ → xh_z σ14 c = xh_z σ c := fun c hc => by rw [ag14.2.2.2.2.2.2.2 c (by omega), ag13.2.2.2.2.2.2.2 c (by omega), Z8, ag1.2.2.2.2.2.2.2 c hc]
  -- the message, the promise, the line
  have kM : xh_k σ19 (xh_n σ) = 2 := by rw [K19, ag14.2.2.1 _ (by omega), ag13.2.2.1 _ (by omega), K8]; exact kk1
  have kP : xh_k σ19 (xh_n σ + 1) = 3 := by rw [K19, ag14.2.2.1 _ (by omega)]; exact kk13
  have kL : xh_k σ19 (xh_n σ + 2) = 1 := by rw [K19]; exact kk14
  have iM : ∀ f, xh_I σ14 f (xh_n σ) = if f = 66 then n else if f = 65 then nI y else 0 := fun f => by rw [ag14.2.2.2.1 _ _ (by omega), ag13.2.2.2.1 _ _ (by omega), I8, I4, i1']; simp
  have rM : ∀ f, xh_R σ14 f (xh_n σ) = if f = 69 then zOP g pr else if f = 68 then zOT g th else if f = 67 then l9 else none := fun f => by rw [ag14.2.2.2.2.1 _ _ (by omega), ag13.2.2.2.2.1 _ _ (by omega), R8, R4, r1']; simp
  have iP : ∀ f, xh_I σ14 f (xh_n σ + 1) = 0 := fun f => by rw [ag14.2.2.2.1 _ _ (by omega)]; exact i13 f
  refine ⟨xw6_ag hR.1.1 (n := xh_n σ) (by omega) (fun c hc => by rw [K19]; exact k14old c hc) (fun f c hc => by rw [R19, if_neg (by omega), if_neg (by omega)]; exact r14old f c hc) (fun c hc => by rw [Z19]; exact z14old c hc), kM, ?_⟩
  intro σ20 e20
  have K20 : xh_k σ20 = xh_k σ19 := by rw [e20]; rfl
  have I20 : xh_I σ20 = xh_I σ19 := by rw [e20]; rfl
  have R20 : ∀ f c, xh_R σ20 f c = if f = 64 ∧ c = xh_n σ then some (xh_n σ + 1) else xh_R σ19 f c := fun f c => by rw [e20, xR2]
  have c20 : xh_I σ20 390 x = nI (z_N S 1) := by rw [I20, I19, if_neg (by omega), if_neg (by omega), if_neg (by omega), i14old _ _ (by omega)]; exact hc1
  rw [c20, cl40 (by omega)]
  refine ⟨vpI (by omega), by rw [K20]; exact kP, ?_⟩
  intro σ21 e21
  have c21 : xh_I σ21 390 x = nI (z_N S 1) := by rw [e21]; exact c20
  rw [c21, nI_1]
  intro σ22 e22
  have I22 : ∀ f c, xh_I σ22 f c = if f = 390 ∧ c = x then nI (z_N S 1 + 1) else xh_I σ19 f c := fun f c => by rw [e22, xI2, e21]; show (if f = 390 ∧ c = x then _ else xh_I σ20 f c) = _; rw [I20]
  have R22 : ∀ f c, xh_R σ22 f c = if f = 64 ∧ c = xh_n σ then some (xh_n σ + 1) else xh_R σ19 f c := fun f c => by rw [e22, e21]; exact R20 f c
  have K22 : xh_k σ22 = xh_k σ19 := by rw [e22, e21]; exact K20
  have N22 : xh_n σ22 = xh_n σ + 3 := by rw [e22, e21, e20]; exact N19
  have M22 : xh_m σ22 = xh_m σ := by rw [e22, e21, e20]; exact M19
  have L22 : xh_L σ22 = xh_L σ14 := by rw [e22, e21, e20]; exact L19
  have Z22 : xh_z σ22 = xh_z σ14 := by rw [e22, e21, e20]; exact Z19
  have Q22 : ∀ c i, xh_q σ22 c i = if c = x + 2 ∧ i = z_N S 1 then some (xh_n σ + 1) else xh_q σ14 c i := fun c i => by
    rw [e22, e21, e20]
    show (if c = x + 2 ∧ i = z_N S 1 then some (xh_n σ + 1) else xh_q σ19 c i) = _
    rw [Q19]
  have iold : ∀ f c, c < xh_n σ → ¬ (389 ≤ f ∧ f ≤ 391) → xh_I σ22 f c = xh_I σ f c := fun f c hc hf => by rw [I22, if_neg (by omega), I19, if_neg (by omega), if_neg (by omega), if_neg (by omega)]; exact i14old f c hc
  have rold : ∀ f c, c < xh_n σ → xh_R σ22 f c = xh_R σ f c := fun f c hc => by rw [R22, if_neg (by omega), R19, if_neg (by omega), if_neg (by omega)]; exact r14old f c hc
  have kold : ∀ c, c < xh_n σ → xh_k σ22 c = xh_k σ c := fun c hc => by rw [K22, K19]; exact k14old c hc
  have hgM : ∀ p, p < z_N S 1 → va_up (gM g) (z_N S 1) (xh_n σ) p = gM g p := fun p hp => by unfold va_up; rw [if_neg (by omega)]
  have hgN : va_up (gM g) (z_N S 1) (xh_n σ) (z_N S 1) = xh_n σ := by unfold va_up; rw [if_pos rfl]
  have hF : ∀ f j, j ≠ z_N S 1 → z_F (z_nask S a (za_g S th pr) (nI y) n o) f j = z_F S f j := fun f j hj => by rw [zF_nask, if_neg hj]
  have hF2 : ∀ f, (f < 9 ∨ 20 < f) → ∀ j, z_F (z_nask S a (za_g S th pr) (nI y) n o) f j = z_F S f j := by
    intro f hf j
    rw [zF_nask]
    by_cases e : j = z_N S 1
    · rw [if_pos e]
      repeat rw [if_neg (by omega)]
    · rw [if_neg e]
  have hps2 : z_ps (z_nask S a (za_g S th pr) (nI y) n o) = z_ps S := ps_congr rfl (fun w => hF2 26 (by omega) w)
  have RG : RC x σ22 (z_nask S a (za_g S th pr) (nI y) n o) (gT g, va_up (gM g) (z_N S 1) (xh_n σ), gW g) B := by
    refine R_grow hR hI (by omega) kold iold rold (fun f c hc => by rw [L22]; exact l14old f c hc) (fun c hc => by rw [Z22]; exact z14old c hc) (fun c i hc _ q2 _ => by rw [Q22, if_neg q2]; exact q14old c i hc) ⟨?_, ?_, ?_⟩ ⟨Nat.le_of_eq nask_N0.symm, by rw [nask_N1]; omega, Nat.le_of_eq nask_N2.symm⟩ (fun _ _ => rfl) hgM (fun _ _ => rfl) (fun k i hk _ => hF2 k (by omega) i) (fun k i _ hi => hF k i (by omega)) (fun k i hk _ => hF2 k (by omega) i) (fun i => hF2 36 (by omega) i) nask_u nask_r nask_W nask_H nask_Q nask_D (fun k i hck q1 q2 => ?_) (fun t q1 q2 => ?_) (fun p q1 q2 => ?_) (fun w q1 q2 => ?_) ⟨?_, fun p p2 hp hp2 e => ?_, ?_⟩ ?_
    · rw [nask_N0, I22, if_neg (by omega), I19, if_neg (by omega), if_neg (by omega), if_neg (by omega), i14old _ _ (by omega)]; exact hR.1.2.1
    · rw [nask_N1, I22, if_pos ⟨rfl, rfl⟩]
    · rw [nask_N2, I22, if_neg (by omega), I19, if_neg (by omega), if_neg (by omega), if_neg (by omega), i14old _ _ (by omega)]; exact hR.1.2.2.2.1
    · have hk37 := zck_lt hck
      have n8 : ¬ k = 8 := by intro z; subst z; exact absurd hck (by decide)
      by_cases z1 : 7 < k ∧ k ≤ 18
      · have hi : i = z_N S 1 := by
          unfold kb at q1 q2
          rw [if_neg (by omega), if_pos z1.2] at q1 q2
          rw [nask_N1] at q2
          omega
        subst hi
        have hka : ka x (gT g, va_up (gM g) (z_N S 1) (xh_n σ), gW g) k (z_N S 1) = if k ≤ 14 then xh_n σ + 1 else xh_n σ := by
          unfold ka
          rw [if_neg (by omega)]
          by_cases z : k ≤ 14
          · rw [if_pos z, if_pos z]; show va_up (gM g) (z_N S 1) (xh_n σ) (z_N S 1) + 1 = _; rw [hgN]
          · rw [if_neg z, if_neg z, if_pos z1.2]; exact hgN
        rw [hka, I22, I19, zF_nask]
        have key2 : k = 9 ∨ k = 10 ∨ k = 11 ∨ k = 12 ∨ k = 13 ∨ k = 14 ∨ k = 15 ∨ k = 16 ∨ k = 17 ∨ k = 18 := by omega
        rcases key2 with z | z | z | z | z | z | z | z | z | z <;> subst z <;> simp [kf, iM, iP]
      · exfalso
        have : kb (z_nask S a (za_g S th pr) (nI y) n o) k = kb S k := by
          unfold kb
          rw [nask_N0, nask_N2]
          by_cases z2 : k ≤ 7
          · rw [if_pos z2, if_pos z2]
          · rw [if_neg z2, if_neg (show ¬ k ≤ 18 by omega), if_neg z2, if_neg (show ¬ k ≤ 18 by omega)]
        omega
    · rw [nask_N0] at q2; omega
    · have hp : p = z_N S 1 := by rw [nask_N1] at q2; omega
      subst hp
      have hgg2 : gM (gT g, va_up (gM g) (z_N S 1) (xh_n σ), gW g) (z_N S 1) = xh_n σ := hgN
      have e17 : z_F (z_nask S a (za_g S th pr) (nI y) n o) 17 (z_N S 1) = nI y := by rw [zF_nask]; simp
      have e19 : z_F (z_nask S a (za_g S th pr) (nI y) n o) 19 (z_N S 1) = o := by rw [zF_nask]; simp
      have e20 : z_F (z_nask S a (za_g S th pr) (nI y) n o) 20 (z_N S 1) = -1 := by rw [zF_nask]; simp
      rw [hgg2, e17, e19, e20]
      refine ⟨⟨by rw [Q22, if_pos ⟨rfl, rfl⟩], ?_, ?_, ?_, ?_, ?_, fun z => ?_⟩, ⟨by rw [K22]; exact kM, by rw [K22]; exact kP, by rw [K22]; exact kL, by omega, Nat.le_refl _⟩, Q_out hI (Nat.le_refl _), ⟨?_, ?_, ?_, trivial⟩⟩
      · rw [I22, I19]; simp
      · rw [R22, R19]; simp
      · rw [R22, R19]; simp
      · rw [R22]; simp
      · rw [R22, if_neg (by omega), R19, if_neg (by omega), if_neg (by omega), rM, zO_neg (by decide)]; simp
      · rw [show (4 : Int32) = nI 4 from rfl, nI_eq (by omega) (by omega)] at z
        rw [R22, if_neg (by omega), R19, if_neg (by omega), if_neg (by omega), rM]
        simp
        exact hl9 z
      · rw [R22, if_neg (by omega), R19, if_neg (by omega), if_neg (by omega)]; exact r14 0
      · rw [R22, if_neg (by omega), R19, if_neg (by omega), if_neg (by omega)]; exact r14 1
      · rw [I22, if_neg (by omega), I19, if_neg (by omega), if_neg (by omega), if_neg (by omega)]; exact i14 2
    · rw [nask_N2] at q2; omega
    · rw [nask_N0]; exact d6
    · rw [nask_N1] at hp hp2
      have e5 : va_up (gM g) (z_N S 1) (xh_n σ) p = va_up (gM g) (z_N S 1) (xh_n σ) p2 := e
      unfold va_up at e5
      by_cases z1 : p = z_N S 1
      · by_cases z2 : p2 = z_N S 1
        · omega
        · rw [if_pos z1, if_neg z2] at e5
          have := d2 p2 (by omega); omega
      · by_cases z2 : p2 = z_N S 1
        · rw [if_neg z1, if_pos z2] at e5
          have := d2 p (by omega); omega
        · rw [if_neg z1, if_neg z2] at e5
          exact d7 p p2 (by omega) (by omega) e5
    · rw [nask_N2]; exact d8
    · rw [N22, M22]
      unfold z_used
      rw [hps2, nask_N0, nask_N1, nask_N2]
      unfold z_used at d9
      omega
  have hN1p : z_N S 1 < z_N (z_nask S a (za_g S th pr) (nI y) n o) 1 := by rw [nask_N1]; omega
  have hHn : ∀ t, z_N S 1 ∉ z_H (z_nask S a (za_g S th pr) (nI y) n o) t := fun t z => by
    rw [nask_H] at z
    have := (hI.2.2.2.2.1 t _ z).2.1; omega
  have hQn : ∀ t, z_N S 1 ∉ z_Q (z_nask S a (za_g S th pr) (nI y) n o) t := fun t z => by
    rw [nask_Q] at z
    have := (hI.2.2.2.2.2.2.1 t _ z).2.1; omega
  have hdst : (∃ t, t < z_N (z_nask S a (za_g S th pr) (nI y) n o) 0 ∧ th = some t ∧ za_g S th pr = z_hs (z_nask S a (za_g S th pr) (nI y) n o) t) ∨ (∃ q, q < z_N (z_nask S a (za_g S th pr) (nI y) n o) 1 ∧ th = none ∧ pr = some q ∧ za_g S th pr = z_hm (z_nask S a (za_g S th pr) (nI y) n o) q) := by
    rcases h5 with ⟨t, ht, e1, e2⟩ | ⟨q, hq, e1, e2⟩
    · refine Or.inl ⟨t, by rw [nask_N0]; exact ht, e1, ?_⟩
      unfold z_hs
      rw [hF2 1 (by omega), e1]; rfl
    · refine Or.inr ⟨q, by rw [nask_N1]; omega, e1, e2, ?_⟩
      unfold z_hm
      rw [hF 10 q (by omega), e1, e2]; rfl
  have e71 : xh_I σ22 71 (xh_n σ) = 0 := by rw [I22, if_neg (by omega), I19, if_neg (by omega), if_neg (by omega), if_neg (by omega), iM]; simp
  have e68 : xh_R σ22 68 (xh_n σ) = zOT (gT g, va_up (gM g) (z_N S 1) (xh_n σ), gW g) th := by
    rw [R22, if_neg (by omega), R19, if_neg (by omega), if_neg (by omega), rM]; simp
    rfl
  have e69 : xh_R σ22 69 (xh_n σ) = zOP (gT g, va_up (gM g) (z_N S 1) (xh_n σ), gW g) pr := by
    rw [R22, if_neg (by omega), R19, if_neg (by omega), if_neg (by omega), rM]; simp
    rcases h5 with ⟨t, ht, e1, e2⟩ | ⟨q, hq, e1, e2⟩
    · rw [e2]; rfl
    · rw [e2]
      show some (gM g q + 1) = some (va_up (gM g) (z_N S 1) (xh_n σ) q + 1)
      rw [hgM q hq]
  have nS : z_N (z_send (z_nask S a (za_g S th pr) (nI y) n o) (z_N S 1) a (za_g S th pr) th pr) 1 = z_N S 1 + 1 := by rw [zFr_send.1, nask_N1]
  have ask_eq : z_ask S a (nI y) n o th pr = z_all 1000 (z_send (z_nask S a (za_g S th pr) (nI y) n o) (z_N S 1) a (za_g S th pr) th pr) := rfl
  have nA : z_N (z_ask S a (nI y) n o th pr) 1 = z_N S 1 + 1 := by rw [ask_eq, (kp_all 1000 _).2.2.1]; exact nS
  have eM : gM (gT g, va_up (gM g) (z_N S 1) (xh_n σ), gW g) (z_N S 1) = xh_n σ := hgN
  generalize hG : (gT g, va_up (gM g) (z_N S 1) (xh_n σ), gW g) = g2 at *
  have snd := c_send (Q := fun σ21 => wp_X6_doAll σ21 x (fun σ22 => xh_k σ22 (xh_n σ + 1) = 3 ∧ (Q (xh_I σ22 128 (xh_n σ + 1)) σ22))) (p := z_N S 1) (h := a) (u := za_g S th pr) (th := th) (asked := pr) RG i1 i2 hHn hQn (by rw [eM]; exact e71) (by rw [eM]; exact e68) (by rw [eM]; exact e69) hdst h1 (fun σ23 B23 _ R23 => ?_)
  · rw [eM] at snd
    exact snd
  · refine c_doAll R23 i3 (fun σ24 B24 R24 => ?_)
    rw [← ask_eq] at R24
    have hp : z_N S 1 < z_N (z_ask S a (nI y) n o th pr) 1 := by rw [nA]; omega
    have q1 := R24.2.2.2.1.2.1 (z_N S 1) hp
    have q2 := R24.2.2.1.2.1 (z_N S 1) hp
    rw [eM] at q1 q2
    rw [q2.2.1]
    exact ⟨q1.2.1, kk σ24 g2 B24 R24⟩
