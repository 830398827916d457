theorem zq_arr_ag {σ σ2 : xS} {k n : Nat} (e : σ2 = xs_arr σ k n) : zAg σ σ2 ∧ xh_n σ2 = xh_n σ + 1 ∧ xh_k σ2 (xh_n σ) = k ∧ xh_z σ2 (xh_n σ) = n ∧ (∀ i, xh_a σ2 (xh_n σ) i = 0) ∧ xh_I σ2 = xh_I σ ∧ xh_R σ2 = xh_R σ ∧ xh_L σ2 = xh_L σ ∧ (∀ a i, a < xh_n σ → xh_a σ2 a i = xh_a σ a i) := by
  subst e
  refine ⟨⟨Nat.le_succ _, rfl, fun a ha => ?_, fun f a ha => rfl, fun f a ha => rfl, fun f a ha => rfl, fun a i ha => ?_, fun a ha => ?_⟩, rfl, ?_, ?_, fun i => ?_, rfl, rfl, rfl, fun a i ha => ?_⟩
  · show va_up (xh_k σ) (xh_n σ) k a = _
    unfold va_up; rw [if_neg (by omega)]
  · show (if a = xh_n σ then none else xh_q σ a i) = _
    rw [if_neg (by omega)]
  · show va_up (xh_z σ) (xh_n σ) n a = _
    unfold va_up; rw [if_neg (by omega)]
  · show va_up (xh_k σ) (xh_n σ) k (xh_n σ) = _
    unfold va_up; rw [if_pos rfl]
  · show va_up (xh_z σ) (xh_n σ) n (xh_n σ) = _
    unfold va_up; rw [if_pos rfl]
  · show (if xh_n σ = xh_n σ then 0 else xh_a σ (xh_n σ) i) = _
    rw [if_pos rfl]
  · show (if a = xh_n σ then 0 else xh_a σ a i) = _
    rw [if_neg (by omega)]
/-- the reference's j first rows are made -/
def zMfl (k : Nat) : Nat := if k ≤ 8 then 448 + k else if k ≤ 22 then 449 + k else if k ≤ 26 then 451 + k else if k ≤ 36 then 452 + k else 453 + k
def zMkd (k : Nat) : Nat := if k = 6 ∨ k = 7 ∨ k = 26 ∨ k = 35 ∨ k = 36 then 10 else 9
def zMln (k : Nat) : Nat := if k ≤ 8 then 40 else if k ≤ 22 then 100 else if k ≤ 26 then 40 else if k = 36 then 16 else 400
def zMi (m M j : Nat) (τ : xS) : Prop := (xh_n τ = m + 1 + j ∧ xh_m τ = M) ∧ (xh_k τ m = 8 ∧ (∀ f, xh_I τ f m = 0) ∧ ∀ f, xh_L τ f m = 0) ∧ ∀ k, 1 ≤ k → k ≤ j → xh_R τ (zMfl k) m = some (m + k) ∧ xh_k τ (m + k) = zMkd k ∧ xh_z τ (m + k) = zMln k ∧ ∀ i, xh_a τ (m + k) i = 0
theorem zq_row {m M j : Nat} {τ τ1 τ2 : xS} (h : zMi m M j τ) (hj : j < 39) (e1 : τ1 = xs_arr τ (zMkd (j + 1)) (zMln (j + 1))) (e2 : τ2 = xs_R τ1 (zMfl (j + 1)) m (some (xh_n τ))) : zMi m M (j + 1) τ2 := by
  obtain ⟨⟨h1, h2⟩, ⟨h3, h4, h5⟩, h6⟩ := h
  obtain ⟨ag, n1, k1, z1, a1, I1, R1, L1, aold⟩ := zq_arr_ag e1
  have R2 : ∀ f c, xh_R τ2 f c = if f = zMfl (j + 1) ∧ c = m then some (xh_n τ) else xh_R τ f c := fun f c => by rw [e2, xR2, R1]
  have K2 : xh_k τ2 = xh_k τ1 := by rw [e2]; rfl
  have Z2 : xh_z τ2 = xh_z τ1 := by rw [e2]; rfl
  have A2 : xh_a τ2 = xh_a τ1 := by rw [e2]; rfl
  refine ⟨⟨by rw [e2]; show xh_n τ1 = _; rw [n1, h1]; omega, by rw [e2]; show xh_m τ1 = _; rw [ag.2.1]; exact h2⟩, ⟨by rw [K2, ag.2.2.1 _ (by omega)]; exact h3, fun f => by rw [e2]; show xh_I τ1 f m = 0; rw [I1]; exact h4 f, fun f => by rw [e2]; show xh_L τ1 f m = 0; rw [L1]; exact h5 f⟩, fun k q1 q2 => ?_⟩
  rw [K2, Z2, A2]
  by_cases e : k = j + 1
  · subst e
    have en : m + (j + 1) = xh_n τ := by omega
    rw [en, R2, if_pos ⟨rfl, rfl⟩]
    exact ⟨rfl, k1, z1, a1⟩
  · obtain ⟨p1, p2, p3, p4⟩ := h6 k q1 (by omega)
    have hne : ¬ zMfl k = zMfl (j + 1) := by
      unfold zMfl
      repeat' split
      all_goals omega
    rw [R2, if_neg (fun y => hne y.1), ag.2.2.1 _ (by omega), ag.2.2.2.2.2.2.2 _ (by omega)]
    exact ⟨p1, p2, p3, fun i => by rw [aold _ _ (by omega)]; exact p4 i⟩
theorem zq_w7 {m M : Nat} {τ : xS} (h : zMi m M 39 τ) : xw7 τ m := by
  have H : ∀ k, 1 ≤ k → k ≤ 39 → xh_R τ (zMfl k) m = some (m + k) ∧ xh_k τ (m + k) = zMkd k ∧ xh_z τ (m + k) = zMln k := fun k a b => ⟨(h.2.2 k a b).1, (h.2.2 k a b).2.1, (h.2.2 k a b).2.2.1⟩
  exact ⟨h.2.1.1, H 1 (by omega) (by omega), H 2 (by omega) (by omega), H 3 (by omega) (by omega), H 4 (by omega) (by omega), H 5 (by omega) (by omega), H 6 (by omega) (by omega), H 7 (by omega) (by omega), H 8 (by omega) (by omega), H 9 (by omega) (by omega), H 10 (by omega) (by omega), H 11 (by omega) (by omega), H 12 (by omega) (by omega), H 13 (by omega) (by omega), H 14 (by omega) (by omega), H 15 (by omega) (by omega), H 16 (by omega) (by omega), H 17 (by omega) (by omega), H 18 (by omega) (by omega), H 19 (by omega) (by omega), H 20 (by omega) (by omega), H 21 (by omega) (by omega), H 22 (by omega) (by omega), H 23 (by omega) (by omega), H 24 (by omega) (by omega), H 25 (by omega) (by omega), H 26 (by omega) (by omega), H 27 (by omega) (by omega), H 28 (by omega) (by omega), H 29 (by omega) (by omega), H 30 (by omega) (by omega), H 31 (by omega) (by omega), H 32 (by omega) (by omega), H 33 (by omega) (by omega), H 34 (by omega) (by omega), H 35 (by omega) (by omega), H 36 (by omega) (by omega), H 37 (by omega) (by omega), H 38 (by omega) (by omega), H 39 (by omega) (by omega)⟩
theorem zq_modelMade {m M n : Nat} {τ : xS} (h : zMi m M 39 τ) (hn : xh_n τ = n) : zRM m τ (zE0 n) 0 0 := by
  obtain ⟨⟨h1, h2⟩, ⟨h3, h4, h5⟩, h6⟩ := id h
  have nm : ∀ {α : Type} (a : α), ¬ a ∈ ([] : List α) := fun a h => by cases h
  have ha : ∀ k i, 1 ≤ k → k ≤ 39 → xh_a τ (m + k) i = 0 := fun k i a b => (h6 k a b).2.2.2 i
  refine ⟨⟨⟨⟨zq_w7 h, hn⟩, h4 498⟩, fun k i hk => ?_, h4 448, h4 457, h4 473, h4 493, h5 494⟩, ⟨[], h4 478, fun j w l hj => by simp at hj, fun w => rfl⟩, ⟨fun _ => 0, fun _ => 0, fun p => ⟨ha 21 p (by omega) (by omega), ha 22 p (by omega) (by omega)⟩, h4 472, fun t p => ⟨fun z => absurd z (nm p), fun z => absurd z.1 (Nat.not_lt_zero p)⟩, fun t p => ⟨fun z => absurd z (nm p), fun z => absurd z.1 (Nat.not_lt_zero p)⟩, fun t => List.Pairwise.nil, fun t => List.Pairwise.nil, fun p hp => absurd hp (Nat.not_lt_zero p), fun p => ⟨Nat.zero_lt_succ 999, fun _ => rfl⟩⟩, ⟨h4 489, fun j p st v hj => by
    have hj2 : ([] : List (Nat × Int32 × Int32))[j]? = some (p, st, v) := hj
    simp at hj2⟩⟩
  unfold zDK at hk
  exact ha k i (by omega) (by omega)
theorem zq_ctorM {m M : Nat} {τ : xS} {Q : xS → Prop} (h : zMi m M 0 τ) (hM : m + 60 ≤ M) (k : ∀ τ2, zMi m M 39 τ2 → Q τ2) : wp_X7_init τ m Q := by
  have rm : ∀ {j : Nat} {τ : xS}, zMi m M j τ → j ≤ 39 → xh_n τ < xh_m τ := fun {j} {τ} h hj => by
    rw [h.1.1, h.1.2]; omega
  unfold wp_X7_init
  refine ⟨rm h (by omega), fun ta0 ea0 tb0 eb0 => ?_⟩
  have h1 := zq_row (j := 0) h (by omega) ea0 eb0
  refine ⟨rm h1 (by omega), fun ta1 ea1 tb1 eb1 => ?_⟩
  have h2 := zq_row (j := 1) h1 (by omega) ea1 eb1
  refine ⟨rm h2 (by omega), fun ta2 ea2 tb2 eb2 => ?_⟩
  have h3 := zq_row (j := 2) h2 (by omega) ea2 eb2
  refine ⟨rm h3 (by omega), fun ta3 ea3 tb3 eb3 => ?_⟩
  have h4 := zq_row (j := 3) h3 (by omega) ea3 eb3
  refine ⟨rm h4 (by omega), fun ta4 ea4 tb4 eb4 => ?_⟩
  have h5 := zq_row (j := 4) h4 (by omega) ea4 eb4
  refine ⟨rm h5 (by omega), fun ta5 ea5 tb5 eb5 => ?_⟩
  have h6 := zq_row (j := 5) h5 (by omega) ea5 eb5
  refine ⟨rm h6 (by omega), fun ta6 ea6 tb6 eb6 => ?_⟩
  have h7 := zq_row (j := 6) h6 (by omega) ea6 eb6
  refine ⟨rm h7 (by omega), fun ta7 ea7 tb7 eb7 => ?_⟩
  have h8 := zq_row (j := 7) h7 (by omega) ea7 eb7
  refine ⟨rm h8 (by omega), fun ta8 ea8 tb8 eb8 => ?_⟩
  have h9 := zq_row (j := 8) h8 (by omega) ea8 eb8
  refine ⟨rm h9 (by omega), fun ta9 ea9 tb9 eb9 => ?_⟩
  have h10 := zq_row (j := 9) h9 (by omega) ea9 eb9
  refine ⟨rm h10 (by omega), fun ta10 ea10 tb10 eb10 => ?_⟩
  have h11 := zq_row (j := 10) h10 (by omega) ea10 eb10
  refine ⟨rm h11 (by omega), fun ta11 ea11 tb11 eb11 => ?_⟩
  have h12 := zq_row (j := 11) h11 (by omega) ea11 eb11
  refine ⟨rm h12 (by omega), fun ta12 ea12 tb12 eb12 => ?_⟩
  have h13 := zq_row (j := 12) h12 (by omega) ea12 eb12
  refine ⟨rm h13 (by omega), fun ta13 ea13 tb13 eb13 => ?_⟩
  have h14 := zq_row (j := 13) h13 (by omega) ea13 eb13
  refine ⟨rm h14 (by omega), fun ta14 ea14 tb14 eb14 => ?_⟩
  have h15 := zq_row (j := 14) h14 (by omega) ea14 eb14
  refine ⟨rm h15 (by omega), fun ta15 ea15 tb15 eb15 => ?_⟩
  have h16 := zq_row (j := 15) h15 (by omega) ea15 eb15
  refine ⟨rm h16 (by omega), fun ta16 ea16 tb16 eb16 => ?_⟩
  have h17 := zq_row (j := 16) h16 (by omega) ea16 eb16
  refine ⟨rm h17 (by omega), fun ta17 ea17 tb17 eb17 => ?_⟩
  have h18 := zq_row (j := 17) h17 (by omega) ea17 eb17
  refine ⟨rm h18 (by omega), fun ta18 ea18 tb18 eb18 => ?_⟩
  have h19 := zq_row (j := 18) h18 (by omega) ea18 eb18
  refine ⟨rm h19 (by omega), fun ta19 ea19 tb19 eb19 => ?_⟩
  have h20 := zq_row (j := 19) h19 (by omega) ea19 eb19
  refine ⟨rm h20 (by omega), fun ta20 ea20 tb20 eb20 => ?_⟩
  have h21 := zq_row (j := 20) h20 (by omega) ea20 eb20
  refine ⟨rm h21 (by omega), fun ta21 ea21 tb21 eb21 => ?_⟩
  have h22 := zq_row (j := 21) h21 (by omega) ea21 eb21
  refine ⟨rm h22 (by omega), fun ta22 ea22 tb22 eb22 => ?_⟩
  have h23 := zq_row (j := 22) h22 (by omega) ea22 eb22
  refine ⟨rm h23 (by omega), fun ta23 ea23 tb23 eb23 => ?_⟩
  have h24 := zq_row (j := 23) h23 (by omega) ea23 eb23
  refine ⟨rm h24 (by omega), fun ta24 ea24 tb24 eb24 => ?_⟩
  have h25 := zq_row (j := 24) h24 (by omega) ea24 eb24
  refine ⟨rm h25 (by omega), fun ta25 ea25 tb25 eb25 => ?_⟩
  have h26 := zq_row (j := 25) h25 (by omega) ea25 eb25
  refine ⟨rm h26 (by omega), fun ta26 ea26 tb26 eb26 => ?_⟩
  have h27 := zq_row (j := 26) h26 (by omega) ea26 eb26
  refine ⟨rm h27 (by omega), fun ta27 ea27 tb27 eb27 => ?_⟩
  have h28 := zq_row (j := 27) h27 (by omega) ea27 eb27
  refine ⟨rm h28 (by omega), fun ta28 ea28 tb28 eb28 => ?_⟩
  have h29 := zq_row (j := 28) h28 (by omega) ea28 eb28
  refine ⟨rm h29 (by omega), fun ta29 ea29 tb29 eb29 => ?_⟩
  have h30 := zq_row (j := 29) h29 (by omega) ea29 eb29
  refine ⟨rm h30 (by omega), fun ta30 ea30 tb30 eb30 => ?_⟩
  have h31 := zq_row (j := 30) h30 (by omega) ea30 eb30
  refine ⟨rm h31 (by omega), fun ta31 ea31 tb31 eb31 => ?_⟩
  have h32 := zq_row (j := 31) h31 (by omega) ea31 eb31
  refine ⟨rm h32 (by omega), fun ta32 ea32 tb32 eb32 => ?_⟩
  have h33 := zq_row (j := 32) h32 (by omega) ea32 eb32
  refine ⟨rm h33 (by omega), fun ta33 ea33 tb33 eb33 => ?_⟩
  have h34 := zq_row (j := 33) h33 (by omega) ea33 eb33
  refine ⟨rm h34 (by omega), fun ta34 ea34 tb34 eb34 => ?_⟩
  have h35 := zq_row (j := 34) h34 (by omega) ea34 eb34
  refine ⟨rm h35 (by omega), fun ta35 ea35 tb35 eb35 => ?_⟩
  have h36 := zq_row (j := 35) h35 (by omega) ea35 eb35
  refine ⟨rm h36 (by omega), fun ta36 ea36 tb36 eb36 => ?_⟩
  have h37 := zq_row (j := 36) h36 (by omega) ea36 eb36
  refine ⟨rm h37 (by omega), fun ta37 ea37 tb37 eb37 => ?_⟩
  have h38 := zq_row (j := 37) h37 (by omega) ea37 eb37
  refine ⟨rm h38 (by omega), fun ta38 ea38 tb38 eb38 => ?_⟩
  have h39 := zq_row (j := 38) h38 (by omega) ea38 eb38
  intro t40 e40
  refine k t40 ?_
  obtain ⟨⟨q1, q2⟩, ⟨q3, q4, q5⟩, q6⟩ := h39
  subst e40
  refine ⟨⟨q1, q2⟩, ⟨q3, fun f => ?_, q5⟩, q6⟩
  rw [xI2]
  by_cases z : f = 448 ∧ m = m
  · rw [if_pos z]
  · rw [if_neg z]; exact q4 f
/-- the class's own -/
theorem zq_ctorC {x M : Nat} {σ : xS} {Q : xS → Prop} (h1 : xh_n σ = x + 1) (h2 : xh_m σ = M) (hM : x + 600 ≤ M) (h3 : xh_k σ x = 7) (h4 : ∀ f, xh_I σ f x = 0) (h5 : ∀ f, xh_L σ f x = 0) (k : ∀ σ2, zLi x M 16 σ2 → Q σ2) : wp_X6_init σ x Q := by
  unfold wp_X6_init
  refine ⟨by omega, fun s1 e1 s2 e2 => ?_⟩
  obtain ⟨a1, n1, k1, z1, -, I1, R1, L1, -⟩ := zq_arr_ag e1
  have N2 : xh_n s2 = x + 2 := by rw [e2]; show xh_n s1 = _; omega
  have M2 : xh_m s2 = M := by rw [e2]; show xh_m s1 = _; rw [a1.2.1]; exact h2
  refine ⟨by omega, fun s3 e3 s4 e4 => ?_⟩
  obtain ⟨a3, n3, k3, z3, -, I3, R3, L3, -⟩ := zq_arr_ag e3
  have N4 : xh_n s4 = x + 3 := by rw [e4]; show xh_n s3 = _; omega
  have M4 : xh_m s4 = M := by rw [e4]; show xh_m s3 = _; rw [a3.2.1]; exact M2
  refine ⟨by omega, fun s5 e5 s6 e6 => ?_⟩
  obtain ⟨a5, n5, k5, z5, -, I5, R5, L5, -⟩ := zq_arr_ag e5
  have N6 : xh_n s6 = x + 4 := by rw [e6]; show xh_n s5 = _; omega
  have M6 : xh_m s6 = M := by rw [e6]; show xh_m s5 = _; rw [a5.2.1]; exact M4
  refine ⟨by omega, fun s7 e7 s8 e8 => ?_⟩
  obtain ⟨a7, n7, k7, z7, -, I7, R7, L7, -⟩ := zq_arr_ag e7
  have N8 : xh_n s8 = x + 5 := by rw [e8]; show xh_n s7 = _; omega
  have M8 : xh_m s8 = M := by rw [e8]; show xh_m s7 = _; rw [a7.2.1]; exact M6
  refine ⟨by omega, fun s9 e9 => ?_⟩
  obtain ⟨a9, n9, k9, i9, r9⟩ := ag_new e9
  unfold wp_X0_init
  intro s10 e10
  rw [h1] at e2 k1 z1
  rw [N2] at e4 k3 z3
  rw [N4] at e6 k5 z5
  rw [N6] at e8 k7 z7
  rw [N8] at e10 k9 i9 r9
  have K10 : ∀ c, xh_k s10 c = xh_k s9 c := fun c => by rw [e10]; rfl
  have Z10 : ∀ c, xh_z s10 c = xh_z s9 c := fun c => by rw [e10]; rfl
  have K8 : ∀ c, xh_k s8 c = xh_k s7 c := fun c => by rw [e8]; rfl
  have Z8 : ∀ c, xh_z s8 c = xh_z s7 c := fun c => by rw [e8]; rfl
  have K6 : ∀ c, xh_k s6 c = xh_k s5 c := fun c => by rw [e6]; rfl
  have Z6 : ∀ c, xh_z s6 c = xh_z s5 c := fun c => by rw [e6]; rfl
  have K4 : ∀ c, xh_k s4 c = xh_k s3 c := fun c => by rw [e4]; rfl
  have Z4 : ∀ c, xh_z s4 c = xh_z s3 c := fun c => by rw [e4]; rfl
  have K2 : ∀ c, xh_k s2 c = xh_k s1 c := fun c => by rw [e2]; rfl
  have Z2 : ∀ c, xh_z s2 c = xh_z s1 c := fun c => by rw [e2]; rfl
  have kk : ∀ c, c < x + 5 → xh_k s10 c = xh_k s7 c := fun c hc => by rw [K10, a9.2.2.1 c (by omega), K8]
  have kz : ∀ c, c < x + 5 → xh_z s10 c = xh_z s7 c := fun c hc => by rw [Z10, a9.2.2.2.2.2.2.2 c (by omega), Z8]
  have k75 : ∀ c, c < x + 4 → xh_k s7 c = xh_k s5 c ∧ xh_z s7 c = xh_z s5 c := fun c hc => ⟨by rw [a7.2.2.1 c (by omega), K6], by rw [a7.2.2.2.2.2.2.2 c (by omega), Z6]⟩
  have k53 : ∀ c, c < x + 3 → xh_k s5 c = xh_k s3 c ∧ xh_z s5 c = xh_z s3 c := fun c hc => ⟨by rw [a5.2.2.1 c (by omega), K4], by rw [a5.2.2.2.2.2.2.2 c (by omega), Z4]⟩
  have k31 : ∀ c, c < x + 2 → xh_k s3 c = xh_k s1 c ∧ xh_z s3 c = xh_z s1 c := fun c hc => ⟨by rw [a3.2.2.1 c (by omega), K2], by rw [a3.2.2.2.2.2.2.2 c (by omega), Z2]⟩
  have Rx : ∀ f, xh_R s10 f x = if f = 388 then some (x + 5) else if f = 387 then some (x + 4) else if f = 386 then some (x + 3) else if f = 385 then some (x + 2) else if f = 384 then some (x + 1) else xh_R σ f x := fun f => by
    rw [e10, xR2, a9.2.2.2.2.1 _ _ (by omega), e8, xR2, R7, e6, xR2, R5, e4, xR2, R3, e2, xR2, R1]
    simp
  have Ix : ∀ f, xh_I s10 f x = 0 := fun f => by
    rw [e10]; show xh_I s9 f x = 0
    rw [a9.2.2.2.1 _ _ (by omega), e8]; show xh_I s7 f x = 0
    rw [I7, e6]; show xh_I s5 f x = 0
    rw [I5, e4]; show xh_I s3 f x = 0
    rw [I3, e2]; show xh_I s1 f x = 0
    rw [I1]; exact h4 f
  have Lx : ∀ f, xh_L s10 f x = 0 := fun f => by
    rw [e10]; show xh_L s9 f x = 0
    rw [a9.2.2.2.2.2.1 _ _ (by omega), e8]; show xh_L s7 f x = 0
    rw [L7, e6]; show xh_L s5 f x = 0
    rw [L5, e4]; show xh_L s3 f x = 0
    rw [L3, e2]; show xh_L s1 f x = 0
    rw [L1]; exact h5 f
  have xw : xw6 s10 x := by
    refine ⟨?_, ⟨?_, ?_, ?_⟩, ⟨?_, ?_, ?_⟩, ⟨?_, ?_, ?_⟩, ⟨?_, ?_, ?_⟩, ⟨?_, ?_, trivial⟩⟩
    · rw [kk _ (by omega), (k75 _ (by omega)).1, (k53 _ (by omega)).1, (k31 _ (by omega)).1, a1.2.2.1 _ (by omega)]; exact h3
    · rw [Rx]; rfl
    · rw [kk _ (by omega), (k75 _ (by omega)).1, (k53 _ (by omega)).1, (k31 _ (by omega)).1]; exact k1
    · rw [kz _ (by omega), (k75 _ (by omega)).2, (k53 _ (by omega)).2, (k31 _ (by omega)).2]; exact z1
    · rw [Rx]; rfl
    · rw [kk _ (by omega), (k75 _ (by omega)).1, (k53 _ (by omega)).1]; exact k3
    · rw [kz _ (by omega), (k75 _ (by omega)).2, (k53 _ (by omega)).2]; exact z3
    · rw [Rx]; rfl
    · rw [kk _ (by omega), (k75 _ (by omega)).1]; exact k5
    · rw [kz _ (by omega), (k75 _ (by omega)).2]; exact z5
    · rw [Rx]; rfl
    · rw [kk _ (by omega)]; exact k7
    · rw [kz _ (by omega)]; exact z7
    · rw [Rx]; rfl
    · rw [K10]; exact k9
  have hli : zLi x M 0 s10 := by
    refine ⟨⟨by rw [e10]; show xh_n s9 = _; omega, by rw [e10]; show xh_m s9 = _; rw [a9.2.1]; exact M8⟩, xw, fun f _ _ => Ix f, Lx 393, ⟨?_, ?_, ?_, trivial⟩, fun w hw => absurd hw (Nat.not_lt_zero w)⟩
    · rw [e10, xR2, if_neg (by omega)]; exact r9 0
    · rw [e10, xR2, if_neg (by omega)]; exact r9 1
    · rw [e10]; exact i9 2
  refine ⟨17, ?_⟩
  have := zq_wireLoop hM k 17 0 s10 (by omega) (by omega) hli
  rw [nI_0] at this
  exact this
