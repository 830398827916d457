/-! The two constructors -/
def zE0 (n : Nat) : zS := (fun _ _ => 0, fun i => if i = 9 then n else 0, 0, 0, fun _ => [], fun _ => [], fun _ => [], [])
theorem zq_I0 {n : Nat} : zJ (zE0 n) := by
  have nl : ∀ a, ¬ a < 0 := fun a => Nat.not_lt_zero a
  have nm : ∀ {α : Type} (a : α), ¬ a ∈ ([] : List α) := fun a h => by cases h
  refine ⟨⟨⟨⟨Nat.zero_le _, Nat.zero_le _, Nat.zero_le _⟩, fun t ht => absurd ht (nl t), fun p hp => absurd hp (nl p), fun w hw => absurd hw (nl w), fun h _ => rfl, fun a b _ _ => rfl, fun w => Or.inl rfl⟩, fun w l hl => absurd hl (nm l), ⟨fun w => List.nodup_nil, fun w w2 p hp => absurd hp (nm p)⟩, ⟨fun d hd => absurd hd (nm d), List.nodup_nil⟩, fun t p hp => absurd hp (nm p), ⟨fun t => List.nodup_nil, fun t t2 p hp => absurd hp (nm p)⟩, fun t p hp => absurd hp (nm p), ⟨fun t => List.nodup_nil, fun t t2 p hp => absurd hp (nm p)⟩, fun w p h hw => absurd hw (nl w), ?_, fun p hp => absurd hp (nl p), fun p hp => absurd hp (nl p)⟩, rfl, fun t ht => absurd ht (nl t)⟩
  have e : z_c2 (zE0 n) = 0 := rfl
  rw [e]; exact Nat.zero_le _
/-- i wires are made -/
def zLi (x M i : Nat) (σ : xS) : Prop := (xh_n σ = x + 6 + 2 * i ∧ xh_m σ = M) ∧ xw6 σ x ∧ (∀ f, 389 ≤ f → f ≤ 392 → xh_I σ f x = 0) ∧ xh_L σ 393 x = 0 ∧ zLn σ (x + 5) [] ∧
  ∀ w, w < i → (xh_q σ (x + 4) w = some (x + 6 + 2 * w) ∧ xh_I σ 320 (x + 6 + 2 * w) = nI (w / 4) ∧ xh_I σ 321 (x + 6 + 2 * w) = nI (w % 4) ∧ xh_R σ 322 (x + 6 + 2 * w) = some (x + 7 + 2 * w)) ∧ xh_I σ 323 (x + 6 + 2 * w) = 0 ∧ (xh_k σ (x + 6 + 2 * w) = 6 ∧ xh_k σ (x + 7 + 2 * w) = 1) ∧ zLn σ (x + 7 + 2 * w) []
theorem zq_made {x M n : Nat} {σ : xS} (h : zLi x M 16 σ) (hn : x + 38 ≤ n) (hr : n + 460 ≤ M) (n9 : Nat) : RC x (yN σ n) (zE0 n9) (fun _ => 0, fun _ => 0, fun _ => 0) (fun _ => []) := by
  obtain ⟨⟨h1, h2⟩, h3, h4, h5, h6, h7⟩ := h
  have nl : ∀ a, ¬ a < 0 := fun a => Nat.not_lt_zero a
  have nm : ∀ {α : Type} (a : α), ¬ a ∈ ([] : List α) := fun a h => by cases h
  refine ⟨⟨h3, h4 389 (by omega) (by omega), h4 390 (by omega) (by omega), h4 391 (by omega) (by omega), h4 392 (by omega) (by omega), h5⟩, fun k i hk hi => ?_, ⟨fun t ht => absurd ht (nl t), fun p hp => absurd hp (nl p), fun w hw => absurd hw (nl w), fun w hw => (h7 w hw).1⟩, ⟨fun t ht => absurd ht (nl t), fun p hp => absurd hp (nl p), fun w hw => absurd hw (nl w), fun w hw => (h7 w hw).2.2.1, hn, fun t t2 ht => absurd ht (nl t), fun t t2 ht => absurd ht (nl t), fun t t2 ht => absurd ht (nl t), ?_⟩, ⟨?_, ?_, ?_, ?_⟩, ⟨fun w hw => trivial, fun d hd => absurd hd (nm d), fun q p hq => absurd hq (nl q)⟩⟩
  · have hk37 := zck_lt hk
    have : k = 36 := by
      unfold kb at hi
      by_cases z1 : k ≤ 7
      · rw [if_pos z1] at hi; exact absurd hi (nl i)
      · rw [if_neg z1] at hi
        by_cases z2 : k ≤ 18
        · rw [if_pos z2] at hi; exact absurd hi (nl i)
        · rw [if_neg z2] at hi
          by_cases z3 : k = 24
          · rw [if_pos z3] at hi; exact absurd hi (nl i)
          · have key2 : ∀ a, a < 37 → zck a = true → ¬ a ≤ 18 → ¬ a = 24 → a = 36 := by decide
            exact key2 k hk37 hk z2 z3
    subst this
    have hi16 : i < 16 := hi
    exact (h7 i hi16).2.1
  · have hm : xh_m (yN σ n) = M := h2
    rw [hm]
    show n + 460 ≤ M + z_used (zE0 n9)
    omega
  · refine lV_ind ⟨h3.2.2.2.2.2.2.1, h6⟩ (fun w hw => ⟨(h7 w hw).2.2.1.2, (h7 w hw).2.2.2⟩) (fun t ht => absurd ht (nl t)) (fun t ht => absurd ht (nl t))
  · refine lV_ind (S := zE0 n9) (P := fun i => ∀ j, lV (zE0 n9) i → lV (zE0 n9) j → lA x (fun _ => 0, fun _ => 0, fun _ => 0) i = lA x (fun _ => 0, fun _ => 0, fun _ => 0) j → i = j) ?_ ?_ (fun t ht => absurd ht (nl t)) (fun t ht => absurd ht (nl t)) |> fun hh i j hi hj e => hh i hi j hi hj e
    · intro j _ hj
      refine lV_ind (S := zE0 n9) (P := fun j => lA x (fun _ => 0, fun _ => 0, fun _ => 0) (0, 0) = lA x (fun _ => 0, fun _ => 0, fun _ => 0) j → (0, 0) = j) (fun _ => rfl) (fun w hw e => ?_) (fun t ht => absurd ht (nl t)) (fun t ht => absurd ht (nl t)) j hj
      have e : x + 5 = x + 7 + 2 * w := e
      omega
    · intro w hw j _ hj
      refine lV_ind (S := zE0 n9) (P := fun j => lA x (fun _ => 0, fun _ => 0, fun _ => 0) (1, w) = lA x (fun _ => 0, fun _ => 0, fun _ => 0) j → (1, w) = j) (fun e => ?_) (fun w2 hw2 e => ?_) (fun t ht => absurd ht (nl t)) (fun t ht => absurd ht (nl t)) j hj
      · have e : x + 7 + 2 * w = x + 5 := e
        omega
      · have e : x + 7 + 2 * w = x + 7 + 2 * w2 := e
        have : w = w2 := by omega
        rw [this]
  · refine lV_ind ⟨List.nodup_nil, fun b hb => absurd hb (nm b)⟩ (fun w hw => ⟨List.nodup_nil, fun b hb => absurd hb (nm b)⟩) (fun t ht => absurd ht (nl t)) (fun t ht => absurd ht (nl t))
  · refine fun i j c hi hj hc => ?_
    have : lL (zE0 n9) (fun _ => 0, fun _ => 0, fun _ => 0) (fun _ => []) i = [] := by
      revert hi
      exact lV_ind (S := zE0 n9) (P := fun i => lL (zE0 n9) (fun _ => 0, fun _ => 0, fun _ => 0) (fun _ => []) i = []) rfl (fun _ _ => rfl) (fun _ _ => rfl) (fun _ _ => rfl) i
    rw [this] at hc
    exact absurd hc (nm c)
/-- one more wire -/
theorem zq_wireLoop {x M : Nat} {Q : xS → Prop} (hM : x + 600 ≤ M) (k : ∀ σ2, zLi x M 16 σ2 → Q σ2) : ∀ (n i : Nat) (σ : xS), i ≤ 16 → 16 < i + n → zLi x M i σ → wb_X6_init_53 Q x n σ (nI i) := by
  intro n
  induction n with
  | zero => intro i σ h1 h2; omega
  | succ n ih =>
    intro i σ hi1 hi2 h
    have h0 := h
    obtain ⟨⟨h1, h2⟩, h3, h4, h5, h6, h7⟩ := h
    obtain ⟨w1, w2, w3, w4, ⟨w5a, w5b, w5c⟩, w6⟩ := id h3
    unfold wb_X6_init_53
    refine ⟨x + 4, w5a, w5b, ?_⟩
    rw [w5c, show Int32.ofNat 16 = nI 16 from rfl, nle (by omega) (by omega)]
    refine ⟨fun z => ?_, fun z => ⟨by omega, fun σ1 e1 => ?_⟩⟩
    · have : i = 16 := by omega
      subst this
      exact k σ h0
    · have hi : i < 16 := by omega
      obtain ⟨ag1, n1, kk1, i1, r1⟩ := ag_new e1
      obtain ⟨v1, v2⟩ := div4 hi
      rw [v2, v1]
      unfold wp_X5_init
      refine ⟨by rw [n1, ag1.2.1]; omega, fun σ2 e2 => ?_⟩
      obtain ⟨ag2, n2, kk2, i2, r2⟩ := ag_new e2
      rw [n1, h1] at n2 kk2 i2 r2
      unfold wp_X0_init
      intro σ3 e3 σ4 e4 σ5 e5
      rw [n1, h1] at e3
      rw [h1] at e4 e5 kk1 i1 r1
      rw [h1]
      have K5 : xh_k σ5 = xh_k σ2 := by rw [e5, e4, e3]; rfl
      have N5 : xh_n σ5 = xh_n σ2 := by rw [e5, e4, e3]; rfl
      have M5 : xh_m σ5 = xh_m σ2 := by rw [e5, e4, e3]; rfl
      have L5 : xh_L σ5 = xh_L σ2 := by rw [e5, e4, e3]; rfl
      have Q5 : xh_q σ5 = xh_q σ2 := by rw [e5, e4, e3]; rfl
      have Z5 : xh_z σ5 = xh_z σ2 := by rw [e5, e4, e3]; rfl
      have R5 : ∀ f c, xh_R σ5 f c = if f = 322 ∧ c = x + 6 + 2 * i then some (x + 6 + 2 * i + 1) else xh_R σ2 f c := fun f c => by rw [e5, e4]; show xh_R σ3 f c = _; rw [e3, xR2]
      have I5 : ∀ f c, xh_I σ5 f c = if f = 321 ∧ c = x + 6 + 2 * i then nI (i % 4) else if f = 320 ∧ c = x + 6 + 2 * i then nI (i / 4) else xh_I σ2 f c := fun f c => by rw [e5, xI2, e4, xI2, e3]; rfl
      have kold : ∀ c, c < x + 6 + 2 * i → xh_k σ5 c = xh_k σ c := fun c hc => by rw [K5, ag2.2.2.1 c (by omega), ag1.2.2.1 c (by omega)]
      have iold : ∀ f c, c < x + 6 + 2 * i → xh_I σ5 f c = xh_I σ f c := fun f c hc => by rw [I5, if_neg (by omega), if_neg (by omega), ag2.2.2.2.1 f c (by omega), ag1.2.2.2.1 f c (by omega)]
      have rold : ∀ f c, c < x + 6 + 2 * i → xh_R σ5 f c = xh_R σ f c := fun f c hc => by rw [R5, if_neg (by omega), ag2.2.2.2.2.1 f c (by omega), ag1.2.2.2.2.1 f c (by omega)]
      have lold : ∀ f c, c < x + 6 + 2 * i → xh_L σ5 f c = xh_L σ f c := fun f c hc => by rw [L5, ag2.2.2.2.2.2.1 f c (by omega), ag1.2.2.2.2.2.1 f c (by omega)]
      have qold : ∀ c j, c < x + 6 + 2 * i → xh_q σ5 c j = xh_q σ c j := fun c j hc => by rw [Q5, ag2.2.2.2.2.2.2.1 c j (by omega), ag1.2.2.2.2.2.2.1 c j (by omega)]
      have zold : ∀ c, c < x + 6 + 2 * i → xh_z σ5 c = xh_z σ c := fun c hc => by rw [Z5, ag2.2.2.2.2.2.2.2 c (by omega), ag1.2.2.2.2.2.2.2 c (by omega)]
      have kW : xh_k σ5 (x + 6 + 2 * i) = 6 := by rw [K5, ag2.2.2.1 _ (by omega)]; exact kk1
      have kL : xh_k σ5 (x + 6 + 2 * i + 1) = 1 := by rw [K5]; exact kk2
      have xw : xw6 σ5 x := xw6_ag h3 (n := x + 6 + 2 * i) (by omega) kold rold zold
      rw [zold _ (by omega), w5c, cl40 (by omega)]
      refine ⟨by rw [kold _ (by omega)]; exact w5b, vpI hi, kW, fun σ6 e6 => ?_⟩
      have Q6 : ∀ c j, xh_q σ6 c j = if c = x + 4 ∧ j = i then some (x + 6 + 2 * i) else xh_q σ5 c j := fun c j => by rw [e6]; rfl
      have same : xh_k σ6 = xh_k σ5 ∧ xh_I σ6 = xh_I σ5 ∧ xh_R σ6 = xh_R σ5 ∧ xh_L σ6 = xh_L σ5 ∧ xh_n σ6 = xh_n σ5 ∧ xh_m σ6 = xh_m σ5 := by rw [e6]; exact ⟨rfl, rfl, rfl, rfl, rfl, rfl⟩
      obtain ⟨s1, s2, s3, s4, s5, s6⟩ := same
      have xw62 : xw6 σ6 x := by rw [e6]; exact xw
      rw [nI_1]
      refine ⟨xw62.1, ih (i + 1) σ6 (by omega) (by omega) ⟨⟨?_, ?_⟩, xw62, fun f a b => ?_, ?_, ?_, fun w hw => ?_⟩⟩
      · rw [s5, N5, n2]; omega
      · rw [s6, M5, ag2.2.1, ag1.2.1]; exact h2
      · rw [s2, iold _ _ (by omega)]; exact h4 f a b
      · rw [s4, lold _ _ (by omega)]; exact h5
      · exact zLn_congr h6 (by rw [s3]; exact rold _ _ (by omega)) (by rw [s3]; exact rold _ _ (by omega)) (by rw [s2]; exact iold _ _ (by omega)) (fun b hb => by cases hb)
      · by_cases z2 : w < i
        · obtain ⟨⟨p1, p2, p3, p4⟩, p5, ⟨p6, p7⟩, p8⟩ := h7 w z2
          rw [s1, s2, s3]
          refine ⟨⟨by rw [Q6, if_neg (by omega), qold _ _ (by omega)]; exact p1, by rw [iold _ _ (by omega)]; exact p2, by rw [iold _ _ (by omega)]; exact p3, by rw [rold _ _ (by omega)]; exact p4⟩, by rw [iold _ _ (by omega)]; exact p5, ⟨by rw [kold _ (by omega)]; exact p6, by rw [kold _ (by omega)]; exact p7⟩, ?_⟩
          exact zLn_congr p8 (by rw [s3]; exact rold _ _ (by omega)) (by rw [s3]; exact rold _ _ (by omega)) (by rw [s2]; exact iold _ _ (by omega)) (fun b hb => by cases hb)
        · have ew : w = i := by omega
          subst ew
          have e7 : x + 7 + 2 * w = x + 6 + 2 * w + 1 := by omega
          have i0 : ∀ f, xh_I σ2 f (x + 6 + 2 * w) = 0 := fun f => by rw [ag2.2.2.2.1 _ _ (by omega)]; exact i1 f
          rw [s1, s2, s3, e7]
          refine ⟨⟨by rw [Q6, if_pos ⟨rfl, rfl⟩], by rw [I5, if_neg (by omega), if_pos ⟨rfl, rfl⟩], by rw [I5, if_pos ⟨rfl, rfl⟩], by rw [R5, if_pos ⟨rfl, rfl⟩]⟩, by rw [I5, if_neg (by omega), if_neg (by omega)]; exact i0 _, ⟨kW, kL⟩, ⟨?_, ?_, ?_, trivial⟩⟩
          · rw [s3, R5, if_neg (by omega)]; exact r2 0
          · rw [s3, R5, if_neg (by omega)]; exact r2 1
          · rw [s2, I5, if_neg (by omega), if_neg (by omega)]; exact i2 2
