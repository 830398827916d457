/-! The class sends on, and posts what WHENs ask for -/
theorem c_sendOn {x : Nat} {σ : xS} {S : zS} {g : zG} {B : Nat → List Nat} {p q : Nat} {Q : xS → Prop} (hR : RC x σ S g B) (hI : zI S) (hf : zFree S p) (hH : ∀ t, p ∉ z_H S t) (hQ : ∀ t, p ∉ z_Q S t) (h20 : z_F S 20 p < 0) (h71 : xh_I σ 71 (gM g p) = 0) (hq : q < z_N S 1) (hz : zval S (z_F S 11 q) (z_F S 12 q)) (k : ∀ σ2 B2, zF7 (gM g p) σ σ2 → RC x σ2 (z_go S p (z_hm S q) (z_F S 11 q) (z_F S 12 q)) g B2 → Q σ2) : wp_X6_sendOn σ x (gM g p) (gM g q + 1) Q := by
  have b := hI.1.1
  have hp := hf.1
  have hl := lose_of hR hI hf hH hQ
  obtain ⟨m1, m2, m3, m4, m5⟩ := hR.2.2.2.1.2.1 q hq
  obtain ⟨n1, n2, n3, n4, n5⟩ := hR.2.2.2.1.2.1 p hp
  obtain ⟨-, ⟨hm1, hm2⟩, -⟩ := hI.1.2.2.1 q hq
  have h11 : xh_I σ 133 (gM g q + 1) = z_F S 11 q := rI hR 11 q (by decide) hq
  have h12 : xh_I σ 134 (gM g q + 1) = z_F S 12 q := rI hR 12 q (by decide) hq
  unfold wp_X6_sendOn
  rw [h11, h12]
  unfold z_go at k
  have h65 : ∀ v, (∀ σ2 B2, zF7 (gM g p) σ σ2 → RC x σ2 (z_settle S p (z_hm S q) 3 v) g B2 → Q σ2) → wb_X6_sendOn_65 Q σ x (gM g p) (gM g q + 1) (gM g p) 3 v := by
    intro v kk
    unfold wb_X6_sendOn_65
    refine ⟨n1, c_answer hR hl (fun σ2 I2 _ k2 _ g72 g73 R2 => ⟨R2.1.1, by rw [k2]; exact m2, ?_⟩)⟩
    have h10 : xh_I σ2 130 (gM g q + 1) = z_F S 10 q := rI R2 10 q (by decide) hq
    rw [h10, hm1]
    exact c_settle R2 hI hf hH hQ h20 g72 g73 hm2 (fun σ3 B3 f3 R3 => kk σ3 B3 (zF7.tr (fun f a _ ha => I2 f a (fun z => ha z.1)) f3) R3)
  have none : ¬ z_F S 11 q = 2 → wb_X6_sendOn_20 Q σ x (gM g p) (gM g q + 1) none := by
    intro n2'
    rw [if_neg n2'] at k
    refine ⟨fun _ => ⟨m2, ?_⟩, fun a z => (by cases z)⟩
    rw [h11, h12]
    refine ⟨fun e3 => h65 _ ?_, fun n3' => h65 _ ?_⟩
    · rw [if_neg (by rw [e3]; decide)] at k; exact k
    · have e1 : z_F S 11 q = 1 := by
        rcases hz with z | ⟨z, -⟩ | z
        · exact z
        · exact absurd z n2'
        · exact absurd z n3'
      rw [if_pos e1] at k; exact k
  refine ⟨m2, fun e2 => ?_, fun n2' => none n2'⟩
  rw [if_pos e2] at k
  obtain ⟨t, ht, et⟩ : ∃ t, t < z_N S 0 ∧ z_F S 12 q = nI t := by
    rcases hz with z | ⟨-, z⟩ | z
    · rw [e2] at z; exact absurd z (by decide)
    · exact z
    · rw [e2] at z; exact absurd z (by decide)
  rw [et] at k
  rw [et]
  rw [cl40 (by omega)] at k
  refine c_thing hR b.1 (fun e => ?_) (fun t2 ht2 e e2 => ?_)
  · rw [ix_nI ht] at e; cases e
  · have : t2 = t := ((nI_eq (by omega) (by omega)).mp e).symm
    subst this
    refine ⟨fun z => (by cases z), fun a7 z => ⟨n1, ?_⟩⟩
    cases z
    intro σ1 e1 σ2 e2
    have R1 := R_lR hR hl e1 (by omega)
    have R2 := R_lR R1 hl e2 (by omega)
    have h10 : xh_I σ2 130 (gM g q + 1) = z_F S 10 q := rI R2 10 q (by decide) hq
    refine ⟨(R2.2.2.2.1.2.1 q hq).2.1, ?_⟩
    rw [h10, hm1]
    refine c_send R2 hI hf hH hQ (th := some t2) (asked := Option.none) (by rw [e2, e1]; exact h71) (by rw [e2, xR2, if_pos ⟨rfl, rfl⟩]; rfl) (by rw [e2, xR2, if_neg (by omega), e1, xR2, if_pos ⟨rfl, rfl⟩]; rfl) (Or.inl ⟨t2, ht2, rfl, rfl⟩) hm2 (fun σ3 B3 f3 R3 => k σ3 B3 (zF7.tr (fun f a _ _ => by rw [e2, e1]; rfl) f3) R3)
/-- what lies below the next free place stays -/
def zAg (σ σ2 : xS) : Prop := xh_n σ ≤ xh_n σ2 ∧ xh_m σ2 = xh_m σ ∧ (∀ a, a < xh_n σ → xh_k σ2 a = xh_k σ a) ∧ (∀ f a, a < xh_n σ → xh_I σ2 f a = xh_I σ f a) ∧ (∀ f a, a < xh_n σ → xh_R σ2 f a = xh_R σ f a) ∧ (∀ f a, a < xh_n σ → xh_L σ2 f a = xh_L σ f a) ∧ (∀ a i, a < xh_n σ → xh_q σ2 a i = xh_q σ a i) ∧ (∀ a, a < xh_n σ → xh_z σ2 a = xh_z σ a)
theorem ka_lt {x : Nat} {σ : xS} {S : zS} {g : zG} (c4 : zC4 x σ S g) {k i : Nat} (hk : zck k = true) (hi : i < kb S k) : ka x g k i < xh_n σ := by
  obtain ⟨d1, d2, d3, d4, d5, -⟩ := c4
  have hlt := zck_lt hk
  unfold ka
  unfold kb at hi
  by_cases z1 : k ≤ 7
  · rw [if_pos z1] at hi ⊢; have := d1 i hi; omega
  · by_cases z2 : k ≤ 14
    · rw [if_neg z1, if_pos (by omega)] at hi
      rw [if_neg z1, if_pos z2]; have := d2 i hi; omega
    · by_cases z3 : k ≤ 18
      · rw [if_neg z1, if_pos z3] at hi
        rw [if_neg z1, if_neg z2, if_pos z3]; have := d2 i hi; omega
      · by_cases z4 : k = 24
        · rw [if_neg z1, if_neg z3, if_pos z4] at hi
          rw [if_neg z1, if_neg z2, if_neg z3, if_pos z4]; have := d3 i hi; omega
        · rw [if_neg z1, if_neg z3, if_neg z4] at hi
          rw [if_neg z1, if_neg z2, if_neg z3, if_neg z4]; omega
theorem lA_lt {x : Nat} {σ : xS} {S : zS} {g : zG} (c4 : zC4 x σ S g) : ∀ j, lV S j → lA x g j < xh_n σ := by
  obtain ⟨d1, d2, d3, d4, d5, -⟩ := c4
  refine lV_ind ?_ (fun w hw => ?_) (fun t ht => ?_) (fun p hp => ?_)
  · show x + 5 < _; omega
  · show x + 7 + 2 * w < _; omega
  · show gT g t + 1 < _; have := d1 t ht; omega
  · show gM g p + 2 < _; have := d2 p hp; omega
theorem R_ag {x : Nat} {σ σ2 : xS} {S S2 : zS} {g : zG} {B : Nat → List Nat} (h : RC x σ S g B) (q : zAg σ σ2) (hF : ∀ k, ¬ k = 26 → z_F S2 k = z_F S k) (hN : z_N S2 = z_N S) (hu : z_u S2 = z_u S) (hr : z_r S2 = z_r S) (hW : z_W S2 = z_W S) (hH : z_H S2 = z_H S) (hQ : z_Q S2 = z_Q S) (hD : z_D S2 = z_D S) (hroom : xh_n σ2 + 460 ≤ xh_m σ2 + z_used S2) (hI0 : zI S) : RC x σ2 S2 g B := by
  obtain ⟨c1, c2, c3, c4, c5, c6⟩ := h
  obtain ⟨q1, q2, q3, q4, q5, q6, q7, q8⟩ := q
  have hA := lA_lt c4
  have c4b := c4
  obtain ⟨d1, d2, d3, d4, d5, d6, d7, d8, d9⟩ := c4b
  refine ⟨?_, fun k i hk hi => ?_, ?_, ?_, ?_, ?_⟩
  · unfold zC1 xw6 at c1 ⊢
    rw [q3 _ (by omega), q3 _ (by omega), q3 _ (by omega), q3 _ (by omega), q3 _ (by omega), q3 _ (by omega), q8 _ (by omega), q8 _ (by omega), q8 _ (by omega), q8 _ (by omega), q5 _ _ (by omega), q5 _ _ (by omega), q5 _ _ (by omega), q5 _ _ (by omega), q5 _ _ (by omega), q4 _ _ (by omega), q4 _ _ (by omega), q4 _ _ (by omega), q4 _ _ (by omega), q6 _ _ (by omega), hN, hu, hr]
    exact c1
  · have hk26 : ¬ k = 26 := by intro z; subst z; exact absurd hk (by decide)
    have hi2 : i < kb S k := by unfold kb at hi ⊢; rw [hN] at hi; exact hi
    rw [q4 _ _ (ka_lt c4 hk hi2), hF k hk26]
    exact c2 k i hk hi2
  · obtain ⟨a1, a2, a3, a4⟩ := c3
    unfold zC3
    rw [hN, hF 4 (by omega), hF 20 (by omega), hF 17 (by omega), hF 19 (by omega), hF 23 (by omega), hF 25 (by omega)]
    refine ⟨fun t ht => ?_, fun p hp => ?_, fun w hw => ?_, fun w hw => ?_⟩
    · have := d1 t ht
      rw [q7 _ _ (by omega), q4 _ _ (by omega), q5 _ _ (by omega), q5 _ _ (by omega)]; exact a1 t ht
    · have := d2 p hp
      rw [q7 _ _ (by omega), q4 _ _ (by omega), q5 131 _ (by omega), q5 132 _ (by omega), q5 64 _ (by omega), q5 70 _ (by omega), q5 67 _ (by omega)]; exact a2 p hp
    · have := d3 w hw
      rw [q7 _ _ (by omega), q5 _ _ (by omega), q5 _ _ (by omega)]; exact a3 w hw
    · rw [q7 _ _ (by omega), q4 _ _ (by omega), q4 _ _ (by omega), q5 _ _ (by omega)]; exact a4 w hw
  · unfold zC4
    rw [hN]
    refine ⟨fun t ht => ?_, fun p hp => ?_, fun w hw => ?_, fun w hw => ?_, by omega, d6, d7, d8, hroom⟩
    · have h5 := d1 t ht
      rw [q3 _ (by omega), q3 _ (by omega)]; exact ⟨h5.1, h5.2.1, by omega, h5.2.2.2⟩
    · have h5 := d2 p hp
      rw [q3 _ (by omega), q3 _ (by omega), q3 _ (by omega)]; exact ⟨h5.1, h5.2.1, h5.2.2.1, by omega, h5.2.2.2.2⟩
    · have h5 := d3 w hw
      rw [q3 _ (by omega)]; exact ⟨h5.1, by omega⟩
    · rw [q3 _ (by omega), q3 _ (by omega)]; exact d4 w hw
  · obtain ⟨e1, e2, e3, e4⟩ := c5
    have c5b : zLs σ2 (lA x g) (lV S) (lL S g B) := by
      refine ⟨fun i hi => ?_, e2, fun i hi => ⟨(e3 i hi).1, fun c hc => ?_⟩, e4⟩
      · have hlt := hA i hi
        refine ⟨by rw [q3 _ hlt]; exact (e1 i hi).1, zLn_congr (e1 i hi).2 (q5 _ _ hlt) (q5 _ _ hlt) (q4 _ _ hlt) (fun c hc => q5 _ _ ((e3 i hi).2 c hc).2)⟩
      · have h5 := (e3 i hi).2 c hc
        rw [q3 _ h5.2]; exact ⟨h5.1, by omega⟩
    refine zLs_congr c5b (fun j hj => ?_) (fun _ _ => rfl) (fun j _ => ?_)
    · unfold lV at hj ⊢; rw [hN] at hj; exact hj
    · unfold lL; rw [hD, hH, hQ]
  · obtain ⟨a1, a2, a3⟩ := c6
    refine ⟨fun w hw => ?_, fun d hd => ?_, fun q p hq hp => ?_⟩
    · rw [hW]
      refine F2_mono _ _ (fun c hc l hl hbl => ?_) (a1 w hw)
      have hlt : c < xh_n σ := ((c5.2.2.1 (1, w) (lV_1 hw)).2 c hc).2
      unfold zLt at hbl ⊢
      rw [hN, q4 _ _ hlt, q4 _ _ hlt, q4 _ _ hlt, q4 _ _ hlt, q4 _ _ hlt, q5 _ _ hlt, q5 _ _ hlt, q5 _ _ hlt, q5 _ _ hlt]
      exact hbl
    · rw [hD] at hd
      have := d2 d.1 (hI0.2.2.2.1.1 d hd).1
      rw [q4 _ _ (by omega), q4 _ _ (by omega), q4 _ _ (by omega)]; exact a2 d hd
    · rw [hN] at hq
      rw [hQ] at hp
      have := d2 p (hI0.2.2.2.2.2.2.1 q p hp).2.1
      rw [q4 _ _ (by omega)]; exact a3 q p hq hp
/-- a new message -/
theorem ag_new {σ σ2 : xS} {c : Nat} (e : σ2 = xs_new σ c) : zAg σ σ2 ∧ xh_n σ2 = xh_n σ + 1 ∧ xh_k σ2 (xh_n σ) = c + 1 ∧ (∀ f, xh_I σ2 f (xh_n σ) = 0) ∧ (∀ f, xh_R σ2 f (xh_n σ) = none) := by
  subst e
  refine ⟨⟨Nat.le_succ _, rfl, fun a ha => ?_, fun f a ha => ?_, fun f a ha => ?_, fun f a ha => ?_, fun _ _ _ => rfl, fun _ _ => rfl⟩, rfl, ?_, fun f => ?_, fun f => ?_⟩
  · show va_up (xh_k σ) (xh_n σ) (c + 1) a = _
    unfold va_up; rw [if_neg (by omega)]
  · show (if a = xh_n σ then 0 else xh_I σ f a) = _
    rw [if_neg (by omega)]
  · show (if a = xh_n σ then none else xh_R σ f a) = _
    rw [if_neg (by omega)]
  · show (if a = xh_n σ then 0 else xh_L σ f a) = _
    rw [if_neg (by omega)]
  · show va_up (xh_k σ) (xh_n σ) (c + 1) (xh_n σ) = _
    unfold va_up; rw [if_pos rfl]
  · show (if xh_n σ = xh_n σ then 0 else xh_I σ f _) = _
    rw [if_pos rfl]
  · show (if xh_n σ = xh_n σ then none else xh_R σ f _) = _
    rw [if_pos rfl]
theorem lose_new {x : Nat} {σ : xS} {S : zS} {g : zG} {B : Nat → List Nat} {b : Nat} (h : RC x σ S g B) (hb : xh_n σ ≤ b) : lose S g B b ∧ ∀ p, p < z_N S 1 → b ≠ gM g p := by
  refine ⟨fun j hj hm => ?_, fun p hp e => ?_⟩
  · have := ((h.2.2.2.2.1.2.2.1 j hj).2 b hm).2; omega
  · have := h.2.2.2.1.2.1 p hp; omega
/-- fields of a loose message that is no promise's -/
theorem R_wI {x : Nat} {σ σ2 : xS} {S : zS} {g : zG} {B : Nat → List Nat} {f b : Nat} {v : Int32} (h : RC x σ S g B) (e : σ2 = xs_I σ f b v) (hf : f = 65 ∨ f = 66) (hl : lose S g B b) (hb : ∀ p, p < z_N S 1 → b ≠ gM g p) : RC x σ2 S g B := by
  obtain ⟨c1, c2, c3, c4, c5, c6⟩ := h
  have hI : ∀ f2 a, ¬ f2 = f → xh_I σ2 f2 a = xh_I σ f2 a := fun f2 a z => by rw [e, xI2, if_neg (fun y => z y.1)]
  have hI2 : ∀ f2 a, ¬ a = b → xh_I σ2 f2 a = xh_I σ f2 a := fun f2 a z => by rw [e, xI2, if_neg (fun y => z y.2)]
  refine ⟨?_, fun k i hk hi => ?_, ?_, ?_, ?_, ?_⟩
  · obtain ⟨a1, a2, a3, a4, a5, a6⟩ := c1
    exact ⟨by rw [e]; exact a1, by rw [hI _ _ (by omega)]; exact a2, by rw [hI _ _ (by omega)]; exact a3, by rw [hI _ _ (by omega)]; exact a4, by rw [hI _ _ (by omega)]; exact a5, by rw [e]; exact a6⟩
  · rw [e, xI2]
    by_cases y : kf k = f ∧ ka x g k i = b
    · exfalso
      have h15 : k = 17 ∨ k = 18 := by
        rcases hf with rfl | rfl
        · exact Or.inl (kf_inj hk (k2 := 17) (by decide) (by rw [y.1]; decide))
        · exact Or.inr (kf_inj hk (k2 := 18) (by decide) (by rw [y.1]; decide))
      have hka : ka x g k i = gM g i := by rcases h15 with rfl | rfl <;> rfl
      have hi2 : i < z_N S 1 := by rcases h15 with rfl | rfl <;> exact hi
      exact hb i hi2 (by rw [← y.2, hka])
    · rw [if_neg y]; exact c2 k i hk hi
  · obtain ⟨a1, a2, a3, a4⟩ := c3
    refine ⟨fun t ht => ?_, fun p hp => ?_, fun w hw => ?_, fun w hw => ?_⟩
    · rw [hI _ _ (by omega), e]; exact a1 t ht
    · rw [hI _ _ (by omega), e]; exact a2 p hp
    · rw [e]; exact a3 w hw
    · rw [hI _ _ (by omega), hI _ _ (by omega), e]; exact a4 w hw
  · rw [e]; exact c4
  · exact zLs_fr c5 (by rw [e]; rfl) (by rw [e]; rfl) (fun a => hI _ _ (by omega)) (fun f a _ => by rw [e]; rfl)
  · obtain ⟨a1, a2, a3⟩ := c6
    have hlP := lose_P hl
    refine ⟨fun w hw => ?_, fun d hd => ?_, fun q p hq hp => ?_⟩
    · refine F2_mono _ _ (fun c hc l _ hbl => ?_) (a1 w hw)
      have hne := hlP.1 w hw c hc
      unfold zLt at hbl ⊢
      rw [hI2 _ _ hne, hI2 _ _ hne, hI2 _ _ hne, hI2 _ _ hne, hI2 _ _ hne, e]
      exact hbl
    · rw [hI _ _ (by omega), hI _ _ (by omega), hI _ _ (by omega)]; exact a2 d hd
    · rw [hI _ _ (by omega)]; exact a3 q p hq hp
theorem R_67 {x : Nat} {σ σ2 : xS} {S : zS} {g : zG} {B : Nat → List Nat} {b : Nat} {v : Option Nat} (h : RC x σ S g B) (e : σ2 = xs_R σ 67 b v) (hb : ∀ p, p < z_N S 1 → b ≠ gM g p) : RC x σ2 S g B := by
  obtain ⟨c1, c2, c3, c4, c5, c6⟩ := h
  have hR : ∀ f a, ¬ f = 67 → xh_R σ2 f a = xh_R σ f a := fun f a z => by rw [e, xR2, if_neg (fun y => z y.1)]
  refine ⟨?_, ?_, ?_, ?_, ?_, ?_⟩
  · unfold zC1 xw6 at c1 ⊢
    rw [hR _ _ (by omega), hR _ _ (by omega), hR _ _ (by omega), hR _ _ (by omega), hR _ _ (by omega), e]
    exact c1
  · rw [e]; exact c2
  · obtain ⟨a1, a2, a3, a4⟩ := c3
    refine ⟨fun t ht => ?_, fun p hp => ?_, fun w hw => ?_, fun w hw => ?_⟩
    · rw [hR _ _ (by omega), hR _ _ (by omega), e]; exact a1 t ht
    · rw [hR 131 _ (by omega), hR 132 _ (by omega), hR 64 _ (by omega), hR 70 _ (by omega), e, xR2, if_neg (fun z => hb p hp z.2.symm)]; exact a2 p hp
    · rw [hR _ _ (by omega), hR _ _ (by omega), e]; exact a3 w hw
    · rw [hR _ _ (by omega), e]; exact a4 w hw
  · rw [e]; exact c4
  · exact zLs_fr c5 (by rw [e]; rfl) (by rw [e]; rfl) (fun a => by rw [e]; rfl) (fun f a hf => hR _ _ (by omega))
  · obtain ⟨a1, a2, a3⟩ := c6
    have eL : zLt σ2 S g = zLt σ S g := by
      funext c l
      unfold zLt
      rw [hR 68 _ (by omega), hR 69 _ (by omega), hR 64 _ (by omega), hR 70 _ (by omega), e]; rfl
    exact ⟨fun w hw => by rw [eL]; exact a1 w hw, by rw [e]; exact a2, by rw [e]; exact a3⟩
theorem c_howIn {x : Nat} {σ : xS} {S : zS} {g : zG} {B : Nat → List Nat} {p : Nat} {h : Int32} {Q : Int32 → Prop} (hR : RC x σ S g B) (hp : p < z_N S 1) (k : Q (z_st S p h)) : wp_X2_howIn σ (gM g p + 1) h Q := by
  have h10 : xh_I σ 130 (gM g p + 1) = z_F S 10 p := rI hR 10 p (by decide) hp
  have h11 : xh_I σ 133 (gM g p + 1) = z_F S 11 p := rI hR 11 p (by decide) hp
  have h13 : xh_I σ 135 (gM g p + 1) = z_F S 13 p := rI hR 13 p (by decide) hp
  unfold wp_X2_howIn
  rw [h10, h11, h13]
  unfold z_st at k
  refine ⟨fun e => ?_, fun e => ?_⟩
  · rw [if_pos e.symm] at k; exact k
  · rw [if_neg (fun z => e z.symm)] at k; exact k
theorem c_valueIn {x : Nat} {σ : xS} {S : zS} {g : zG} {B : Nat → List Nat} {p : Nat} {h : Int32} {Q : Int32 → Prop} (hR : RC x σ S g B) (hp : p < z_N S 1) (k : Q (z_vl S p h)) : wp_X2_valueIn σ (gM g p + 1) h Q := by
  have h10 : xh_I σ 130 (gM g p + 1) = z_F S 10 p := rI hR 10 p (by decide) hp
  have h12 : xh_I σ 134 (gM g p + 1) = z_F S 12 p := rI hR 12 p (by decide) hp
  have h14 : xh_I σ 136 (gM g p + 1) = z_F S 14 p := rI hR 14 p (by decide) hp
  unfold wp_X2_valueIn
  rw [h10, h12, h14]
  unfold z_vl at k
  refine ⟨fun e => ?_, fun e => ?_⟩
  · rw [if_pos e.symm] at k; exact k
  · rw [if_neg (fun z => e z.symm)] at k; exact k
/-- a WHEN's letter -/
theorem c_postWhen {x : Nat} {σ : xS} {S : zS} {g : zG} {B : Nat → List Nat} {w p h : Nat} {Q : xS → Prop} (hR : RC x σ S g B) (hI : zI S) (hw : w < z_N S 2) (h0 : z_F S 26 w = 0) (hp : z_F S 23 w = nI p) (hp1 : p < z_N S 1) (hh : z_F S 24 w = nI h) (hh1 : h < 4) (hst : ¬ z_st S p (nI h) = 0) (k : ∀ σ2 B2, RC x σ2 (z_pw S w (z_st S p (nI h)) (z_vl S p (nI h))) g B2 → Q σ2) : wp_X6_postWhen σ x (gW g w) Q := by
  have b := hI.1.1
  have hne : ¬ (if h = z_hm S p then z_F S 11 p = 0 else z_F S 13 p = 0) := st_ne hI hp1 hh1 hst
  obtain ⟨hI26, hps⟩ := I_26 hI hw h0 hp hp1 hh hh1 hne
  obtain ⟨p2, h2, t, q1, q2, q3, q4, q5, q6, q7, q8⟩ := hI.1.2.2.2.1 w hw
  have eh : h2 = h := by rw [hh] at q4; exact ((nI_eq (by omega) (by omega)).mp q4).symm
  subst eh
  obtain ⟨a1, a2, a3⟩ := hR.2.2.1.2.2.1 w hw
  rw [hp, cl40 (by omega)] at a2
  rw [q7, cl40 (by omega)] at a3
  have h257 : xh_I σ 257 (gW g w) = nI h2 := (rI hR 24 w (by decide) hw : xh_I σ 257 (gW g w) = z_F S 24 w).trans hh
  have room := hR.2.2.2.1.2.2.2.2.2.2.2.2
  have hpsN : z_ps S + 1 ≤ z_N S 2 := by
    rw [← hps]
    unfold z_ps
    exact Nat.le_trans (List.length_filter_le _ _) (by rw [List.length_range]; exact Nat.le_refl _)
  have huse : z_used S + 1 ≤ 460 := by unfold z_used; omega
  have huse2 : z_used (zs_F S 26 w 1) = z_used S + 1 := by
    unfold z_used
    rw [hps]
    show 2 * z_N S 0 + 3 * z_N S 1 + z_N S 2 + (z_ps S + 1) = _
    omega
  have h36 : z_F S 36 (4 * h2 + h2) = 0 := hI.1.2.2.2.2.1 h2 hh1
  -- the new message, with n
  have key : ∀ n, n = (if z_st S p (nI h2) = 3 then -(z_vl S p (nI h2)) else z_vl S p (nI h2)) → xh_n σ < xh_m σ ∧ ∀ σ12, σ12 = xs_new σ 1 → wb_X6_postWhen_48 Q σ12 x (gW g w) (xh_n σ) (xh_n σ) 2 n := by
    intro n en
    refine ⟨by omega, fun σ1 e1 => ?_⟩
    obtain ⟨ag, n1, k1, i1, r1⟩ := ag_new e1
    have R1 : RC x σ1 (zs_F S 26 w 1) g B := R_ag hR ag (fun k hk => funext (fun _ => zF_ne hk)) rfl rfl rfl rfl rfl rfl rfl (by rw [n1, ag.2.1, huse2]; omega) hI
    have hlo := lose_new hR (Nat.le_refl (xh_n σ))
    have hl1 : lose (zs_F S 26 w 1) g B (xh_n σ) := hlo.1
    have hb1 : ∀ q, q < z_N (zs_F S 26 w 1) 1 → xh_n σ ≠ gM g q := hlo.2
    unfold wb_X6_postWhen_48
    refine ⟨k1, ?_⟩
    unfold wp_X1_init
    intro σ2 e2 σ3 e3 σ4 e4
    have R2 := R_wI R1 e2 (by omega) hl1 hb1
    have R3 := R_wI R2 e3 (by omega) hl1 hb1
    have R4 := R_67 R3 e4 hb1
    have K4 : xh_k σ4 = xh_k σ1 := by rw [e4, e3, e2]; rfl
    have N4 : xh_n σ4 = xh_n σ1 := by rw [e4, e3, e2]; rfl
    refine ⟨R4.1.1, (R4.2.2.2.1.2.2.1 w hw).1, gT g t, ?_, by rw [K4]; exact k1, ?_⟩
    · have := (R4.2.2.1.2.2.1 w hw).2.2
      rw [show z_F (zs_F S 26 w 1) 25 w = nI t from by rw [zF_ne (by omega)]; exact q7, cl40 (by omega)] at this
      exact this
    · intro σ5 e5
      have R5 := R_lR R4 hl1 e5 (by omega)
      have I5 : ∀ f, xh_I σ5 f (xh_n σ) = if f = 66 then n else if f = 65 then 2 else 0 := fun f => by
        rw [e5, show xh_I (xs_R σ4 68 (xh_n σ) (some (gT g t))) = xh_I σ4 from rfl, e4, show xh_I (xs_R σ3 67 (xh_n σ) none) = xh_I σ3 from rfl, e3, xI2, e2, xI2, i1]
        simp
      have r5 : ∀ f, xh_R σ5 f (xh_n σ) = if f = 68 then some (gT g t) else none := fun f => by
        rw [e5, xR2, e4, xR2, e3, show xh_R (xs_I σ2 66 (xh_n σ) n) = xh_R σ2 from rfl, e2, show xh_R (xs_I σ1 65 (xh_n σ) 2) = xh_R σ1 from rfl, r1]
        simp
      have h257b : xh_I σ5 257 (gW g w) = nI h2 := by
        have : xh_I σ5 257 (gW g w) = z_F (zs_F S 26 w 1) 24 w := rI R5 24 w (by decide) hw
        rw [this, zF_ne (by omega)]; exact hh
      have K5 : xh_k σ5 = xh_k σ1 := by rw [e5]; exact K4
      have N5 : xh_n σ5 = xh_n σ1 := by rw [e5]; exact N4
      rw [h257b]
      unfold wp_X6_post
      refine ⟨by rw [K5]; exact k1, fun σ6 e6 => ?_⟩
      have R6 := R_w R5 e6 (Or.inr rfl) hb1
      refine c_wire R6 hh1 hh1 ⟨fun z => (by cases z), fun a6 z => ?_⟩
      cases z
      have hw16 : 4 * h2 + h2 < 16 := by omega
      have h36b : xh_I σ6 323 (x + 6 + 2 * (4 * h2 + h2)) = 0 := by
        have : xh_I σ6 323 (x + 6 + 2 * (4 * h2 + h2)) = z_F (zs_F S 26 w 1) 36 (4 * h2 + h2) := rI R6 36 _ (by decide) hw16
        rw [this, zF_ne (by omega)]; exact h36
      rw [h36b]
      refine ⟨(R6.2.2.2.1.2.2.2.1 _ hw16).1, fun _ => ⟨x + 7 + 2 * (4 * h2 + h2), (R6.2.2.1.2.2.2 _ hw16).2.2.2, (R6.2.2.2.1.2.2.2.1 _ hw16).2, ?_⟩, fun z => absurd rfl z⟩
      have hlt5 : zLt σ5 (zs_F S 26 w 1) g (xh_n σ) (2, 0, some t, none, n, 0) := by
        refine Or.inr (Or.inr ⟨rfl, ⟨?_, ?_, ?_, ?_⟩, hb1, ?_, ?_, ?_⟩)
        · rw [r5]; rfl
        · rw [I5]; rfl
        · rw [I5]; rfl
        · rw [r5]; rfl
        · rw [I5]; rfl
        · rw [r5]; rfl
        · rw [r5]; rfl
      refine c_addW R6 hw16 (by rw [e6]; show xh_k σ5 _ = 2; rw [K5]; exact k1) (by rw [e6]; show _ < xh_n σ5; rw [N5, n1]; omega) hl1 (Lt_I e6 (Or.inr rfl) hlt5) (fun σ7 _ R7 => ⟨R7.1.1, k σ7 (va_up B (4 * h2 + h2) (B (4 * h2 + h2) ++ [xh_n σ])) ?_⟩)
      unfold z_pw z_sw
      rw [hh, q7, cl40 (by omega), cl40 (by omega)]
      have ehs : z_hs (zs_F S 26 w 1) t = h2 := by
        show z_hs (zs_F S 26 w 1) t = h2
        unfold z_hs
        rw [zF_ne (by omega)]
        exact q8
      rw [ehs, if_pos (by rw [zF_ne (by omega)]; exact h36), ← en]
      exact R7
  unfold wp_X6_postWhen
  rw [h257]
  refine ⟨(hR.2.2.2.1.2.2.1 w hw).1, gM g p + 1, a2, (hR.2.2.2.1.2.1 p hp1).2.1, ?_⟩
  refine c_valueIn hR hp1 ?_
  refine c_howIn hR hp1 ?_
  refine ⟨fun e3 => ?_, fun n3 => ?_⟩
  · obtain ⟨k1, k2⟩ := key (-(z_vl S p (nI h2))) (by rw [if_pos e3])
    exact ⟨k1, fun σ12 e => ⟨fun z => absurd z (by decide), fun _ => k2 σ12 e⟩⟩
  · obtain ⟨k1, k2⟩ := key (z_vl S p (nI h2)) (by rw [if_neg n3])
    exact ⟨k1, fun σ12 e => ⟨fun _ => k2 σ12 e, fun z => absurd rfl z⟩⟩
