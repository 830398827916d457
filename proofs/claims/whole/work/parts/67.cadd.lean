theorem xw6_ag {x : Nat} {σ σ2 : xS} {n : Nat} (h : xw6 σ x) (hx : x + 5 < n) (hk : ∀ a, a < n → xh_k σ2 a = xh_k σ a) (hR : ∀ f a, a < n → xh_R σ2 f a = xh_R σ f a) (hz : ∀ a, a < n → xh_z σ2 a = xh_z σ a) : xw6 σ2 x := by
  unfold xw6 at h ⊢
  rw [hk _ (by omega), hk _ (by omega), hk _ (by omega), hk _ (by omega), hk _ (by omega), hk _ (by omega), hz _ (by omega), hz _ (by omega), hz _ (by omega), hz _ (by omega), hR _ _ (by omega), hR _ _ (by omega), hR _ _ (by omega), hR _ _ (by omega), hR _ _ (by omega)]
  exact h
/-- what older objects were stays -/
def zOld (σ σ2 : xS) : Prop := xh_n σ ≤ xh_n σ2 ∧ (∀ a, a < xh_n σ → xh_k σ2 a = xh_k σ a) ∧ (∀ f a, a < xh_n σ → ¬ (389 ≤ f ∧ f ≤ 391) → xh_I σ2 f a = xh_I σ f a) ∧ (∀ f a, a < xh_n σ → xh_R σ2 f a = xh_R σ f a)
theorem c_addThing {x : Nat} {σ : xS} {S : zS} {g : zG} {B : Nat → List Nat} {h kd n gg acts : Int32} {gr : Option Nat} {Q : Int32 → xS → Prop} (hR : RC x σ S g B) (hI : zI S) (hg : gr = zO g gg) (hgg : gg < 0 ∨ ∃ u, u < z_N S 0 ∧ gg = nI u) (k0 : z_N S 0 = 40 → Q (-3) σ) (k1 : z_N S 0 < 40 → ∀ σ2 g2, (∀ t, t < z_N S 0 → gT g2 t = gT g t) → gM g2 = gM g → gW g2 = gW g → zOld σ σ2 → RC x σ2 (z_new S h kd n gg acts) g2 B → Q (nI (z_N S 0)) σ2) : wp_X6_addThing σ x h kd n gr acts Q := by
  have b := hI.1.1
  have hc0 : xh_I σ 389 x = nI (z_N S 0) := hR.1.2.1
  obtain ⟨d1, d2, d3, d4, d5, d6, d7, d8, d9⟩ := hR.2.2.2.1
  have hps : z_ps S ≤ z_N S 2 := by
    unfold z_ps
    exact Nat.le_trans (List.length_filter_le _ _) (by rw [List.length_range]; exact Nat.le_refl _)
  unfold wp_X6_addThing
  rw [hc0, show (40 : Int32) = nI 40 from rfl, nlt (by omega) (by omega)]
  refine ⟨fun hlt => ?_, fun hge => k0 (by omega)⟩
  have huse : z_used S + 2 ≤ 460 := by unfold z_used; omega
  refine ⟨by omega, fun σ1 e1 => ?_⟩
  obtain ⟨ag1, n1, kk1, i1, r1⟩ := ag_new e1
  unfold wp_X3_init
  refine ⟨by rw [n1, ag1.2.1]; omega, fun σ2 e2 => ?_⟩
  obtain ⟨ag2, n2, kk2, i2, r2⟩ := ag_new e2
  unfold wp_X0_init
  intro σ3 e3 σ4 e4 σ5 e5 σ6 e6 σ7 e7 σ8 e8 σ9 e9
  rw [n1] at kk2 i2 r2 e3
  have K9 : xh_k σ9 = xh_k σ2 := by rw [e9, e8, e7, e6, e5, e4, e3]; rfl
  have N9 : xh_n σ9 = xh_n σ2 := by rw [e9, e8, e7, e6, e5, e4, e3]; rfl
  have M9 : xh_m σ9 = xh_m σ2 := by rw [e9, e8, e7, e6, e5, e4, e3]; rfl
  have L9 : xh_L σ9 = xh_L σ2 := by rw [e9, e8, e7, e6, e5, e4, e3]; rfl
  have Q9 : xh_q σ9 = xh_q σ2 := by rw [e9, e8, e7, e6, e5, e4, e3]; rfl
  have Z9 : xh_z σ9 = xh_z σ2 := by rw [e9, e8, e7, e6, e5, e4, e3]; rfl
  have R9 : ∀ f a, xh_R σ9 f a = if f = 195 ∧ a = xh_n σ then gr else if f = 197 ∧ a = xh_n σ then some (xh_n σ + 1) else xh_R σ2 f a := fun f a => by
    rw [e9, show xh_R (xs_I σ8 196 (xh_n σ) acts) = xh_R σ8 from rfl, e8, xR2, e7, show xh_R (xs_I σ6 198 (xh_n σ) n) = xh_R σ6 from rfl, e6, show xh_R (xs_I σ5 194 (xh_n σ) kd) = xh_R σ5 from rfl, e5, show xh_R (xs_I σ4 193 (xh_n σ) h) = xh_R σ4 from rfl, e4, show xh_R (xs_I σ3 192 (xh_n σ) (nI (z_N S 0))) = xh_R σ3 from rfl, e3, xR2]
  have I9 : ∀ f a, xh_I σ9 f a = if f = 196 ∧ a = xh_n σ then acts else if f = 198 ∧ a = xh_n σ then n else if f = 194 ∧ a = xh_n σ then kd else if f = 193 ∧ a = xh_n σ then h else if f = 192 ∧ a = xh_n σ then nI (z_N S 0) else xh_I σ2 f a := fun f a => by
    rw [e9, xI2, e8, show xh_I (xs_R σ7 195 (xh_n σ) gr) = xh_I σ7 from rfl, e7, xI2, e6, xI2, e5, xI2, e4, xI2, e3]; rfl
  have k2old : ∀ a, a < xh_n σ → xh_k σ2 a = xh_k σ a := fun a ha => by rw [ag2.2.2.1 a (by rw [n1]; omega), ag1.2.2.1 a ha]
  have i2old : ∀ f a, a < xh_n σ → xh_I σ2 f a = xh_I σ f a := fun f a ha => by rw [ag2.2.2.2.1 f a (by rw [n1]; omega), ag1.2.2.2.1 f a ha]
  have r2old : ∀ f a, a < xh_n σ → xh_R σ2 f a = xh_R σ f a := fun f a ha => by rw [ag2.2.2.2.2.1 f a (by rw [n1]; omega), ag1.2.2.2.2.1 f a ha]
  have l2old : ∀ f a, a < xh_n σ → xh_L σ2 f a = xh_L σ f a := fun f a ha => by rw [ag2.2.2.2.2.2.1 f a (by rw [n1]; omega), ag1.2.2.2.2.2.1 f a ha]
  have q2old : ∀ a i, a < xh_n σ → xh_q σ2 a i = xh_q σ a i := fun a i ha => by rw [ag2.2.2.2.2.2.2.1 a i (by rw [n1]; omega), ag1.2.2.2.2.2.2.1 a i ha]
  have z2old : ∀ a, a < xh_n σ → xh_z σ2 a = xh_z σ a := fun a ha => by rw [ag2.2.2.2.2.2.2.2 a (by rw [n1]; omega), ag1.2.2.2.2.2.2.2 a ha]
  have kn : xh_k σ9 (xh_n σ) = 4 := by rw [K9, ag2.2.2.1 _ (by rw [n1]; omega)]; exact kk1
  have kn1 : xh_k σ9 (xh_n σ + 1) = 1 := by rw [K9]; exact kk2
  have r9old : ∀ f a, a < xh_n σ → xh_R σ9 f a = xh_R σ f a := fun f a ha => by rw [R9, if_neg (by omega), if_neg (by omega)]; exact r2old f a ha
  have i9old : ∀ f a, a < xh_n σ → xh_I σ9 f a = xh_I σ f a := fun f a ha => by
    rw [I9, if_neg (by omega), if_neg (by omega), if_neg (by omega), if_neg (by omega), if_neg (by omega)]; exact i2old f a ha
  have k9old : ∀ a, a < xh_n σ → xh_k σ9 a = xh_k σ a := fun a ha => by rw [K9]; exact k2old a ha
  have z9old : ∀ a, a < xh_n σ → xh_z σ9 a = xh_z σ a := fun a ha => by rw [Z9]; exact z2old a ha
  refine ⟨xw6_ag hR.1.1 (by omega) k9old r9old z9old, vpI (by omega), kn, fun σ10 e10 σ11 e11 => ?_⟩
  rw [cl40 (by omega)] at e10
  have hc9 : xh_I σ10 389 x = nI (z_N S 0) := by rw [e10, show xh_I (xs_q σ9 (x + 1) (z_N S 0) (some (xh_n σ))) = xh_I σ9 from rfl, i9old _ _ (by omega)]; exact hc0
  rw [hc9, nI_1] at e11
  have I11 : ∀ f a, xh_I σ11 f a = if f = 389 ∧ a = x then nI (z_N S 0 + 1) else xh_I σ9 f a := fun f a => by rw [e11, xI2, e10]; rfl
  have Rr11 : xh_R σ11 = xh_R σ9 := by rw [e11, e10]; rfl
  have K11 : xh_k σ11 = xh_k σ9 := by rw [e11, e10]; rfl
  have N11 : xh_n σ11 = xh_n σ + 2 := by rw [e11, e10]; show xh_n σ9 = _; rw [N9, n2, n1]
  have M11 : xh_m σ11 = xh_m σ := by rw [e11, e10]; show xh_m σ9 = _; rw [M9, ag2.2.1, ag1.2.1]
  have Lg : xh_L σ11 = xh_L σ9 := by rw [e11, e10]; rfl
  have Zg : xh_z σ11 = xh_z σ9 := by rw [e11, e10]; rfl
  have Qg : ∀ a i, xh_q σ11 a i = if a = x + 1 ∧ i = z_N S 0 then some (xh_n σ) else xh_q σ9 a i := fun a i => by rw [e11, e10]; rfl
  have iold : ∀ f a, a < xh_n σ → ¬ (389 ≤ f ∧ f ≤ 391) → xh_I σ11 f a = xh_I σ f a := fun f a ha hf => by rw [I11, if_neg (by omega)]; exact i9old f a ha
  have rold : ∀ f a, a < xh_n σ → xh_R σ11 f a = xh_R σ f a := fun f a ha => by rw [Rr11]; exact r9old f a ha
  have kold : ∀ a, a < xh_n σ → xh_k σ11 a = xh_k σ a := fun a ha => by rw [K11]; exact k9old a ha
  have hgT : ∀ t, t < z_N S 0 → va_up (gT g) (z_N S 0) (xh_n σ) t = gT g t := fun t ht => by unfold va_up; rw [if_neg (by omega)]
  have hgN : va_up (gT g) (z_N S 0) (xh_n σ) (z_N S 0) = xh_n σ := by unfold va_up; rw [if_pos rfl]
  have hps2 : z_ps (z_new S h kd n gg acts) = z_ps S := by
    refine ps_congr rfl (fun w => ?_)
    rw [zF_new]
    repeat rw [if_neg (by omega)]
  have hFn : ∀ k, 9 ≤ k → ∀ i, z_F (z_new S h kd n gg acts) k i = z_F S k i := fun k hk i => by
    rw [zF_new]
    repeat rw [if_neg (by omega)]
  refine k1 hlt σ11 (va_up (gT g) (z_N S 0) (xh_n σ), gM g, gW g) hgT rfl rfl ⟨by omega, kold, iold, rold⟩ ?_
  refine R_grow hR hI (by omega) kold iold rold (fun f a ha => by rw [Lg, L9]; exact l2old f a ha) (fun a ha => by rw [Zg]; exact z9old a ha) (fun a i ha q1 _ _ => by rw [Qg, if_neg q1, Q9]; exact q2old a i ha) ⟨?_, ?_, ?_⟩ ⟨Nat.le_succ _, Nat.le_refl _, Nat.le_refl _⟩ hgT (fun _ _ => rfl) (fun _ _ => rfl) (fun k i hk hi => ?_) (fun k i hk _ => hFn k (by omega) i) (fun k i hk _ => hFn k (by omega) i) (fun i => hFn 36 (by omega) i) rfl rfl rfl rfl rfl rfl (fun k i hck h1 h2 => ?_) (fun t h1 h2 => ?_) (fun p h1 h2 => ?_) (fun w h1 h2 => ?_) ⟨fun t t2 ht ht2 e => ?_, d7, d8⟩ ?_
  · rw [I11, if_pos ⟨rfl, rfl⟩]; rfl
  · rw [I11, if_neg (by omega), i9old _ _ (by omega)]; exact hR.1.2.2.1
  · rw [I11, if_neg (by omega), i9old _ _ (by omega)]; exact hR.1.2.2.2.1
  · rw [zF_new]
    repeat rw [if_neg (by omega)]
  · -- the new thing's numbers
    have hk37 := zck_lt hck
    have key2 : ∀ a, a < 37 → zck a = true → a ≤ 7 → a = 1 ∨ a = 2 ∨ a = 3 ∨ a = 5 ∨ a = 6 ∨ a = 7 := by decide
    by_cases z1 : k ≤ 7
    · have hi : i = z_N S 0 := by
        unfold kb at h1 h2
        rw [if_pos z1] at h1 h2
        have h3 : i < z_N S 0 + 1 := h2
        omega
      subst hi
      have hka : ka x (va_up (gT g) (z_N S 0) (xh_n σ), gM g, gW g) k (z_N S 0) = xh_n σ := by
        unfold ka; rw [if_pos z1]; exact hgN
      rw [hka, I11, I9, zF_new]
      have i0 : ∀ f, xh_I σ2 f (xh_n σ) = 0 := fun f => by rw [ag2.2.2.2.1 _ _ (by rw [n1]; omega)]; exact i1 f
      rcases key2 k hk37 hck z1 with z | z | z | z | z | z <;> subst z <;> simp [kf, i0]
    · exfalso
      have : kb (z_new S h kd n gg acts) k = kb S k := by
        unfold kb; rw [if_neg z1, if_neg z1]; rfl
      omega
  · have ht : t = z_N S 0 := by
      have h3 : t < z_N S 0 + 1 := h2
      omega
    subst ht
    have e4 : z_F (z_new S h kd n gg acts) 4 (z_N S 0) = gg := by rw [zF_new]; simp
    have hgg2 : gT (va_up (gT g) (z_N S 0) (xh_n σ), gM g, gW g) (z_N S 0) = xh_n σ := hgN
    rw [hgg2, e4]
    refine ⟨⟨by rw [Qg, if_pos ⟨rfl, rfl⟩], ?_, ?_, ?_⟩, ⟨by rw [K11]; exact kn, by rw [K11]; exact kn1, by omega, Nat.le_refl _⟩, H_out hI (Nat.le_refl _), ?_⟩
    · rw [I11, I9]; simp
    · rw [Rr11, R9]
      simp
      rw [hg]
      exact (zO_congr (g := g) (g2 := (va_up (gT g) (z_N S 0) (xh_n σ), gM g, gW g)) hgg (by omega) hgT).symm
    · rw [Rr11, R9]; simp
    · refine ⟨?_, ?_, ?_, trivial⟩
      · rw [Rr11, R9]; simp; exact r2 0
      · rw [Rr11, R9]; simp; exact r2 1
      · rw [I11, I9]; simp; exact i2 2
  · have h3 : p < z_N S 1 := h2
    omega
  · have h3 : w < z_N S 2 := h2
    omega
  · have ht3 : t < z_N S 0 + 1 := ht
    have ht4 : t2 < z_N S 0 + 1 := ht2
    have e5 : va_up (gT g) (z_N S 0) (xh_n σ) t = va_up (gT g) (z_N S 0) (xh_n σ) t2 := e
    unfold va_up at e5
    by_cases z1 : t = z_N S 0
    · by_cases z2 : t2 = z_N S 0
      · omega
      · rw [if_pos z1, if_neg z2] at e5
        have := d1 t2 (by omega); omega
    · by_cases z2 : t2 = z_N S 0
      · rw [if_neg z1, if_pos z2] at e5
        have := d1 t (by omega); omega
      · rw [if_neg z1, if_neg z2] at e5
        exact d6 t t2 (by omega) (by omega) e5
  · rw [N11, M11]
    unfold z_used
    rw [hps2]
    have e1 : z_N (z_new S h kd n gg acts) 0 = z_N S 0 + 1 := rfl
    have e2 : z_N (z_new S h kd n gg acts) 1 = z_N S 1 := rfl
    have e3 : z_N (z_new S h kd n gg acts) 2 = z_N S 2 := rfl
    rw [e1, e2, e3]
    unfold z_used at d9
    omega
