/-! New objects of the class -/
theorem zO_congr {g g2 : zG} {v : Int32} {N : Nat} (h : v < 0 ∨ ∃ t, t < N ∧ v = nI t) (hN : N < 1000) (hg : ∀ t, t < N → gT g2 t = gT g t) : zO g2 v = zO g v := by
  rcases h with h | ⟨t, ht, rfl⟩
  · rw [zO_neg h, zO_neg h]
  · rw [zO_nI (by omega), zO_nI (by omega), hg t ht]
theorem R_grow {x : Nat} {σ σ2 : xS} {S S2 : zS} {g g2 : zG} {B : Nat → List Nat} (h : RC x σ S g B) (hI0 : zI S)
    (hn : xh_n σ ≤ xh_n σ2) (hk : ∀ a, a < xh_n σ → xh_k σ2 a = xh_k σ a) (hI : ∀ f a, a < xh_n σ → ¬ (389 ≤ f ∧ f ≤ 391) → xh_I σ2 f a = xh_I σ f a) (hR : ∀ f a, a < xh_n σ → xh_R σ2 f a = xh_R σ f a) (hL : ∀ f a, a < xh_n σ → xh_L σ2 f a = xh_L σ f a) (hz : ∀ a, a < xh_n σ → xh_z σ2 a = xh_z σ a)
    (hq : ∀ a i, a < xh_n σ → ¬ (a = x + 1 ∧ i = z_N S 0) → ¬ (a = x + 2 ∧ i = z_N S 1) → ¬ (a = x + 3 ∧ i = z_N S 2) → xh_q σ2 a i = xh_q σ a i)
    (hc : xh_I σ2 389 x = nI (z_N S2 0) ∧ xh_I σ2 390 x = nI (z_N S2 1) ∧ xh_I σ2 391 x = nI (z_N S2 2))
    (hN : z_N S 0 ≤ z_N S2 0 ∧ z_N S 1 ≤ z_N S2 1 ∧ z_N S 2 ≤ z_N S2 2)
    (hgT : ∀ t, t < z_N S 0 → gT g2 t = gT g t) (hgM : ∀ p, p < z_N S 1 → gM g2 p = gM g p) (hgW : ∀ w, w < z_N S 2 → gW g2 w = gW g w)
    (hF0 : ∀ k i, (1 ≤ k ∧ k ≤ 7) → i < z_N S 0 → z_F S2 k i = z_F S k i) (hF1 : ∀ k i, (9 ≤ k ∧ k ≤ 20) → i < z_N S 1 → z_F S2 k i = z_F S k i) (hF2 : ∀ k i, (23 ≤ k ∧ k ≤ 25) → i < z_N S 2 → z_F S2 k i = z_F S k i) (hF3 : ∀ i, z_F S2 36 i = z_F S 36 i)
    (hu : z_u S2 = z_u S) (hr : z_r S2 = z_r S) (hW : z_W S2 = z_W S) (hH : z_H S2 = z_H S) (hQ : z_Q S2 = z_Q S) (hD : z_D S2 = z_D S)
    (hnew : ∀ k i, zck k = true → kb S k ≤ i → i < kb S2 k → xh_I σ2 (kf k) (ka x g2 k i) = z_F S2 k i)
    (hT : ∀ t, z_N S 0 ≤ t → t < z_N S2 0 → (xh_q σ2 (x + 1) t = some (gT g2 t) ∧ xh_I σ2 192 (gT g2 t) = nI t ∧ xh_R σ2 195 (gT g2 t) = zO g2 (z_F S2 4 t) ∧ xh_R σ2 197 (gT g2 t) = some (gT g2 t + 1)) ∧ (xh_k σ2 (gT g2 t) = 4 ∧ xh_k σ2 (gT g2 t + 1) = 1 ∧ gT g2 t + 1 < xh_n σ2 ∧ xh_n σ ≤ gT g2 t) ∧ z_H S t = [] ∧ zLn σ2 (gT g2 t + 1) [])
    (hP : ∀ p, z_N S 1 ≤ p → p < z_N S2 1 → (xh_q σ2 (x + 2) p = some (gM g2 p + 1) ∧ xh_I σ2 128 (gM g2 p + 1) = nI p ∧ xh_R σ2 131 (gM g2 p + 1) = some (gM g2 p) ∧ xh_R σ2 132 (gM g2 p + 1) = some (gM g2 p + 2) ∧ xh_R σ2 64 (gM g2 p) = some (gM g2 p + 1) ∧ xh_R σ2 70 (gM g2 p) = zO g2 (z_F S2 20 p) ∧ (z_F S2 17 p = 4 → xh_R σ2 67 (gM g2 p) = zO g2 (z_F S2 19 p))) ∧ (xh_k σ2 (gM g2 p) = 2 ∧ xh_k σ2 (gM g2 p + 1) = 3 ∧ xh_k σ2 (gM g2 p + 2) = 1 ∧ gM g2 p + 2 < xh_n σ2 ∧ xh_n σ ≤ gM g2 p) ∧ z_Q S p = [] ∧ zLn σ2 (gM g2 p + 2) [])
    (hWn : ∀ w, z_N S 2 ≤ w → w < z_N S2 2 → (xh_q σ2 (x + 3) w = some (gW g2 w) ∧ xh_R σ2 256 (gW g2 w) = some (gM g2 (z_F S2 23 w).toNatClampNeg + 1) ∧ xh_R σ2 258 (gW g2 w) = some (gT g2 (z_F S2 25 w).toNatClampNeg)) ∧ (xh_k σ2 (gW g2 w) = 5 ∧ gW g2 w < xh_n σ2))
    (hinj : (∀ t t2, t < z_N S2 0 → t2 < z_N S2 0 → gT g2 t = gT g2 t2 → t = t2) ∧ (∀ p p2, p < z_N S2 1 → p2 < z_N S2 1 → gM g2 p = gM g2 p2 → p = p2) ∧ (∀ w w2, w < z_N S2 2 → w2 < z_N S2 2 → gW g2 w = gW g2 w2 → w = w2))
    (hroom : xh_n σ2 + 460 ≤ xh_m σ2 + z_used S2) : RC x σ2 S2 g2 B := by
  have b := hI0.1.1
  obtain ⟨c1, c2, c3, c4, c5, c6⟩ := h
  have hA := lA_lt c4
  have c4b := c4
  obtain ⟨d1, d2, d3, d4, d5, d6, d7, d8, d9⟩ := c4b
  have ok4 : ∀ t, t < z_N S 0 → z_F S 4 t < 0 ∨ ∃ u, u < z_N S 0 ∧ z_F S 4 t = nI u := fun t ht => by
    obtain ⟨-, -, v3, v4⟩ := hI0.1.2.1 t ht
    by_cases z : z_F S 2 t = 3 ∨ z_F S 2 t = 4
    · exact Or.inr (v3 z)
    · rw [v4 z]; exact Or.inl (by decide)
  have ok20 : ∀ p, p < z_N S 1 → z_F S 20 p < 0 ∨ ∃ u, u < z_N S 0 ∧ z_F S 20 p = nI u := fun p hp => (hI0.2.2.2.2.2.2.2.2.2.2.1 p hp).imp id (fun z => z.2)
  have c4n : zC4 x σ2 S2 g2 := by
    refine ⟨fun t ht => ?_, fun p hp => ?_, fun w hw => ?_, fun w hw => ?_, by omega, hinj.1, hinj.2.1, hinj.2.2, hroom⟩
    · by_cases z : t < z_N S 0
      · have h5 := d1 t z
        rw [hgT t z, hk _ (by omega), hk _ (by omega)]; exact ⟨h5.1, h5.2.1, by omega, h5.2.2.2⟩
      · have h5 := (hT t (by omega) ht).2.1
        exact ⟨h5.1, h5.2.1, h5.2.2.1, by omega⟩
    · by_cases z : p < z_N S 1
      · have h5 := d2 p z
        rw [hgM p z, hk _ (by omega), hk _ (by omega), hk _ (by omega)]; exact ⟨h5.1, h5.2.1, h5.2.2.1, by omega, h5.2.2.2.2⟩
      · have h5 := (hP p (by omega) hp).2.1
        exact ⟨h5.1, h5.2.1, h5.2.2.1, h5.2.2.2.1, by omega⟩
    · by_cases z : w < z_N S 2
      · have h5 := d3 w z
        rw [hgW w z, hk _ (by omega)]; exact ⟨h5.1, by omega⟩
      · exact (hWn w (by omega) hw).2
    · rw [hk _ (by omega), hk _ (by omega)]; exact d4 w hw
  refine ⟨?_, fun k i hck hi => ?_, ?_, c4n, ?_, ?_⟩
  · obtain ⟨a1, a2, a3, a4, a5, a6⟩ := c1
    refine ⟨?_, hc.1, hc.2.1, hc.2.2, by rw [hI _ _ (by omega) (by omega), hu]; exact a5, by rw [hL _ _ (by omega), hr]; exact a6⟩
    unfold xw6 at a1 ⊢
    rw [hk _ (by omega), hk _ (by omega), hk _ (by omega), hk _ (by omega), hk _ (by omega), hk _ (by omega), hz _ (by omega), hz _ (by omega), hz _ (by omega), hz _ (by omega), hR _ _ (by omega), hR _ _ (by omega), hR _ _ (by omega), hR _ _ (by omega), hR _ _ (by omega)]
    exact a1
  · by_cases z : i < kb S k
    · have hlt := ka_lt c4 hck z
      have hr := kf_rng hck
      have hk37 := zck_lt hck
      have z0 := z
      have key : ka x g2 k i = ka x g k i ∧ z_F S2 k i = z_F S k i := by
        unfold ka
        unfold kb at z
        by_cases z1 : k ≤ 7
        · rw [if_pos z1] at z
          rw [if_pos z1, if_pos z1, hgT i z]
          refine ⟨rfl, hF0 k i ⟨?_, z1⟩ z⟩
          have : ¬ k = 0 := by intro y; subst y; exact absurd hck (by decide)
          omega
        · by_cases z2 : k ≤ 14
          · rw [if_neg z1, if_pos (by omega)] at z
            rw [if_neg z1, if_pos z2, if_neg z1, if_pos z2, hgM i z]
            refine ⟨rfl, hF1 k i ⟨?_, by omega⟩ z⟩
            have : ¬ k = 8 := by intro y; subst y; exact absurd hck (by decide)
            omega
          · by_cases z3 : k ≤ 18
            · rw [if_neg z1, if_pos z3] at z
              rw [if_neg z1, if_neg z2, if_pos z3, if_neg z1, if_neg z2, if_pos z3, hgM i z]
              exact ⟨rfl, hF1 k i ⟨by omega, by omega⟩ z⟩
            · by_cases z4 : k = 24
              · rw [if_neg z1, if_neg z3, if_pos z4] at z
                rw [if_neg z1, if_neg z2, if_neg z3, if_pos z4, if_neg z1, if_neg z2, if_neg z3, if_pos z4, hgW i z]
                exact ⟨rfl, hF2 k i ⟨by omega, by omega⟩ z⟩
              · rw [if_neg z1, if_neg z2, if_neg z3, if_neg z4, if_neg z1, if_neg z2, if_neg z3, if_neg z4]
                have : k = 36 := by
                  have key2 : ∀ a, a < 37 → zck a = true → ¬ a ≤ 18 → ¬ a = 24 → a = 36 := by decide
                  exact key2 k hk37 hck z3 z4
                subst this
                exact ⟨rfl, hF3 i⟩
      rw [key.1, key.2, hI _ _ hlt (by omega)]
      exact c2 k i hck z0
    · exact hnew k i hck (by omega) hi
  · obtain ⟨a1, a2, a3, a4⟩ := c3
    refine ⟨fun t ht => ?_, fun p hp => ?_, fun w hw => ?_, fun w hw => ?_⟩
    · by_cases z : t < z_N S 0
      · have h5 := d1 t z
        rw [hgT t z, hq _ _ (by omega) (by omega) (by omega) (by omega), hI _ _ (by omega) (by omega), hR _ _ (by omega), hR _ _ (by omega), hF0 4 t (by omega) z, zO_congr (ok4 t z) (by omega) hgT]
        exact a1 t z
      · exact (hT t (by omega) ht).1
    · by_cases z : p < z_N S 1
      · have h5 := d2 p z
        obtain ⟨b1, b2, b3, b4, b5, b6, b7⟩ := a2 p z
        rw [hgM p z, hq _ _ (by omega) (by omega) (by omega) (by omega), hI _ _ (by omega) (by omega), hR 131 _ (by omega), hR 132 _ (by omega), hR 64 _ (by omega), hR 70 _ (by omega), hR 67 _ (by omega), hF1 20 p (by omega) z, hF1 17 p (by omega) z, hF1 19 p (by omega) z, zO_congr (ok20 p z) (by omega) hgT]
        refine ⟨b1, b2, b3, b4, b5, b6, fun e => ?_⟩
        rw [zO_congr (Or.inr ((hI0.1.2.2.1 p z).2.2.2 e)) (by omega) hgT]
        exact b7 e
      · exact (hP p (by omega) hp).1
    · by_cases z : w < z_N S 2
      · have h5 := d3 w z
        obtain ⟨p2, h2, t, q1, q2, q3, q4, q5, q6, q7, q8⟩ := hI0.1.2.2.2.1 w z
        rw [hgW w z, hq _ _ (by omega) (by omega) (by omega) (by omega), hR _ _ (by omega), hR _ _ (by omega), hF2 23 w (by omega) z, hF2 25 w (by omega) z, q2, q7, cl40 (by omega), cl40 (by omega), hgM p2 q1, hgT t q6]
        have := a3 w z
        rw [q2, q7, cl40 (by omega), cl40 (by omega)] at this
        exact this
      · exact (hWn w (by omega) hw).1
    · rw [hq _ _ (by omega) (by omega) (by omega) (by omega), hI _ _ (by omega) (by omega), hI _ _ (by omega) (by omega), hR _ _ (by omega)]
      exact a4 w hw
  · obtain ⟨e1, e2, e3, e4⟩ := c5
    -- old lines keep their places and lists
    have old : ∀ j, lV S j → lA x g2 j = lA x g j ∧ lL S2 g2 B j = lL S g B j := by
      refine lV_ind ⟨rfl, ?_⟩ (fun w hw => ⟨rfl, rfl⟩) (fun t ht => ⟨?_, ?_⟩) (fun p hp => ⟨?_, ?_⟩)
      · rw [lL_0, lL_0, hD]
        exact List.map_congr_left (fun d hd => hgM d.1 (hI0.2.2.2.1.1 d hd).1)
      · show gT g2 t + 1 = gT g t + 1
        rw [hgT t ht]
      · rw [lL_2, lL_2, hH]
        exact List.map_congr_left (fun p hp => hgM p (hI0.2.2.2.2.1 t p hp).2.1)
      · show gM g2 p + 2 = gM g p + 2
        rw [hgM p hp]
      · rw [lL_3, lL_3, hQ]
        exact List.map_congr_left (fun q hq => hgM q (hI0.2.2.2.2.2.2.1 p q hq).2.1)
    have nw : ∀ j, lV S2 j → lV S j ∨ ((xh_k σ2 (lA x g2 j) = 1 ∧ zLn σ2 (lA x g2 j) []) ∧ lL S2 g2 B j = []) := by
      refine lV_ind (Or.inl lV_0) (fun w hw => Or.inl (lV_1 hw)) (fun t ht => ?_) (fun p hp => ?_)
      · by_cases z : t < z_N S 0
        · exact Or.inl (lV_2 z)
        · have h5 := hT t (by omega) ht
          exact Or.inr ⟨⟨h5.2.1.2.1, h5.2.2.2⟩, by rw [lL_2, hH, h5.2.2.1]; rfl⟩
      · by_cases z : p < z_N S 1
        · exact Or.inl (lV_3 z)
        · have h5 := hP p (by omega) hp
          exact Or.inr ⟨⟨h5.2.1.2.2.1, h5.2.2.2⟩, by rw [lL_3, hQ, h5.2.2.1]; rfl⟩
    obtain ⟨f1, f2, f3, f4, f5, f6, f7, f8, f9⟩ := c4n
    refine ⟨fun j hj => ?_, ?_, fun j hj => ?_, fun i j c hi hj hc1 hc2 => ?_⟩
    · rcases nw j hj with z | z
      · obtain ⟨o1, o2⟩ := old j z
        have hlt := hA j z
        rw [o1, o2, hk _ hlt]
        exact ⟨(e1 j z).1, zLn_congr (e1 j z).2 (hR _ _ hlt) (hR _ _ hlt) (hI _ _ hlt (by omega)) (fun c hc => hR _ _ ((e3 j z).2 c hc).2)⟩
      · rw [z.2]; exact z.1
    · -- no two lines at one place
      refine lV_ind (P := fun i => ∀ j, lV S2 i → lV S2 j → lA x g2 i = lA x g2 j → i = j) ?_ ?_ ?_ ?_ |> fun hh i j hi hj e => hh i hi j hi hj e
      · intro j _ hj
        refine lV_ind (P := fun j => lA x g2 (0, 0) = lA x g2 j → (0, 0) = j) (fun _ => rfl) (fun w hw e => ?_) (fun t ht e => ?_) (fun p hp e => ?_) j hj
        · have e : x + 5 = x + 7 + 2 * w := e
          omega
        · have e : x + 5 = gT g2 t + 1 := e
          have := f1 t ht; omega
        · have e : x + 5 = gM g2 p + 2 := e
          have := f2 p hp; omega
      · intro w hw j _ hj
        refine lV_ind (P := fun j => lA x g2 (1, w) = lA x g2 j → (1, w) = j) (fun e => ?_) (fun w2 hw2 e => ?_) (fun t ht e => ?_) (fun p hp e => ?_) j hj
        · have e : x + 7 + 2 * w = x + 5 := e
          omega
        · have e : x + 7 + 2 * w = x + 7 + 2 * w2 := e
          have : w = w2 := by omega
          rw [this]
        · have e : x + 7 + 2 * w = gT g2 t + 1 := e
          have := f1 t ht; omega
        · have e : x + 7 + 2 * w = gM g2 p + 2 := e
          have := f2 p hp; omega
      · intro t ht j _ hj
        refine lV_ind (P := fun j => lA x g2 (2, t) = lA x g2 j → (2, t) = j) (fun e => ?_) (fun w2 hw2 e => ?_) (fun t2 ht2 e => ?_) (fun p hp e => ?_) j hj
        · have e : gT g2 t + 1 = x + 5 := e
          have := f1 t ht; omega
        · have e : gT g2 t + 1 = x + 7 + 2 * w2 := e
          have := f1 t ht; omega
        · have e : gT g2 t + 1 = gT g2 t2 + 1 := e
          rw [f6 t t2 ht ht2 (by omega)]
        · have e : gT g2 t + 1 = gM g2 p + 2 := e
          have e2 : gT g2 t = gM g2 p + 1 := by omega
          have h5 := (f1 t ht).1
          rw [e2, (f2 p hp).2.1] at h5
          omega
      · intro p hp j _ hj
        refine lV_ind (P := fun j => lA x g2 (3, p) = lA x g2 j → (3, p) = j) (fun e => ?_) (fun w2 hw2 e => ?_) (fun t ht e => ?_) (fun p2 hp2 e => ?_) j hj
        · have e : gM g2 p + 2 = x + 5 := e
          have := f2 p hp; omega
        · have e : gM g2 p + 2 = x + 7 + 2 * w2 := e
          have := f2 p hp; omega
        · have e : gM g2 p + 2 = gT g2 t + 1 := e
          have e2 : gT g2 t = gM g2 p + 1 := by omega
          have h5 := (f1 t ht).1
          rw [e2, (f2 p hp).2.1] at h5
          omega
        · have e : gM g2 p + 2 = gM g2 p2 + 2 := e
          rw [f7 p p2 hp hp2 (by omega)]
    · rcases nw j hj with z | z
      · rw [(old j z).2]
        refine ⟨(e3 j z).1, fun c hc => ?_⟩
        have h5 := (e3 j z).2 c hc
        rw [hk _ h5.2]; exact ⟨h5.1, by omega⟩
      · rw [z.2]; exact ⟨by simp, fun c hc => absurd hc (by simp)⟩
    · rcases nw i hi with z | z
      · rcases nw j hj with y | y
        · rw [(old i z).2] at hc1
          rw [(old j y).2] at hc2
          exact e4 i j c z y hc1 hc2
        · rw [y.2] at hc2; exact absurd hc2 (by simp)
      · rw [z.2] at hc1; exact absurd hc1 (by simp)
  · obtain ⟨a1, a2, a3⟩ := c6
    refine ⟨fun w hw => ?_, fun d hd => ?_, fun q p hq2 hp => ?_⟩
    · rw [hW]
      refine F2_mono _ _ (fun c hc l hl hbl => ?_) (a1 w hw)
      have hlt : c < xh_n σ := ((c5.2.2.1 (1, w) (lV_1 hw)).2 c hc).2
      have hok := (hI0.2.1 w l hl).2
      have hth : zOT g2 l.2.2.1 = zOT g l.2.2.1 := by
        cases e : l.2.2.1 with
        | none => rfl
        | some t =>
          show some (gT g2 t) = some (gT g t)
          rw [hgT t]
          rcases hok with ⟨-, -, -, -, k5, -⟩ | ⟨-, -, -, -, -, k6, -⟩ | ⟨-, -, -, -, -, -, -, k8, -⟩ | ⟨-, -, ⟨t2, k3, k4⟩, -⟩
          · rcases k5 with ⟨t2, z1, z2, z3⟩ | ⟨q, z1, z2, z3, z4⟩
            · rw [e] at z2; cases z2; exact z1
            · rw [e] at z2; cases z2
          · rw [e] at k6; cases k6
          · rw [e] at k8; cases k8
          · rw [e] at k4; cases k4; exact k3
      have hpr : zOP g2 l.2.2.2.1 = zOP g l.2.2.2.1 := by
        cases e : l.2.2.2.1 with
        | none => rfl
        | some q =>
          show some (gM g2 q + 1) = some (gM g q + 1)
          rw [hgM q]
          rcases hok with ⟨-, -, -, -, k5, -⟩ | ⟨-, -, -, -, -, -, k7, -⟩ | ⟨-, -, -, -, -, -, -, -, k9, -⟩ | ⟨-, -, -, k5, -⟩
          · rcases k5 with ⟨t2, z1, z2, z3⟩ | ⟨q2, z1, z2, z3, z4⟩
            · rw [e] at z3; cases z3
            · rw [e] at z3; cases z3; exact z1
          · rw [e] at k7; cases k7
          · rw [e] at k9; cases k9
          · rw [e] at k5; cases k5
      rcases hbl with ⟨l1, l2, l3, l4, l5⟩ | ⟨l1, l2, l3, l4, l5⟩ | ⟨l1, ⟨l2, l3, l4, l5⟩, l6, l7, l8, l9⟩
      · exact Or.inl ⟨l1, by rw [hgM _ (zLok_lt hok (by omega))]; exact l2, by rw [hI _ _ hlt (by omega)]; exact l3, by rw [hR _ _ hlt, hth]; exact l4, by rw [hR _ _ hlt, hpr]; exact l5⟩
      · exact Or.inr (Or.inl ⟨l1, by rw [hgM _ (zLok_lt hok (by omega))]; exact l2, by rw [hI _ _ hlt (by omega)]; exact l3, by rw [hI _ _ hlt (by omega)]; exact l4, by rw [hI _ _ hlt (by omega)]; exact l5⟩)
      · refine Or.inr (Or.inr ⟨l1, ⟨by rw [hR _ _ hlt]; exact l2, by rw [hI _ _ hlt (by omega)]; exact l3, by rw [hI _ _ hlt (by omega)]; exact l4, by rw [hR _ _ hlt]; exact l5⟩, fun p hp => ?_, by rw [hI _ _ hlt (by omega)]; exact l7, by rw [hR _ _ hlt, hth]; exact l8, by rw [hR _ _ hlt]; exact l9⟩)
        by_cases z : p < z_N S 1
        · rw [hgM p z]; exact l6 p z
        · have := (hP p (by omega) hp).2.1
          omega
    · rw [hD] at hd
      have hd1 := (hI0.2.2.2.1.1 d hd).1
      have := d2 d.1 hd1
      rw [hgM _ hd1, hI _ _ (by omega) (by omega), hI _ _ (by omega) (by omega), hI _ _ (by omega) (by omega)]; exact a2 d hd
    · rw [hQ] at hp
      have h5 := hI0.2.2.2.2.2.2.1 q p hp
      have := d2 p h5.2.1
      rw [hgM _ h5.2.1, hI _ _ (by omega) (by omega)]
      exact a3 q p h5.1 hp
