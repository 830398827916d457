/-! The class's turns; what it delivers and loses -/
theorem RC_8 {x : Nat} {σ : xS} {S : zS} {g : zG} {B : Nat → List Nat} {i : Nat} {v : Int32} (h : RC x σ S g B) : RC x σ (zs_F S 8 i v) g B := RC_S h (fun k hk _ => funext (fun _ => zF_ne hk)) (fun _ _ => rfl) rfl rfl rfl rfl rfl rfl
theorem RC_40 {x : Nat} {σ : xS} {S : zS} {g : zG} {B : Nat → List Nat} {i : Nat} {v : Int32} (h : RC x σ S g B) : RC x σ (zs_F S 40 i v) g B := RC_S h (fun k _ hk => funext (fun _ => zF_ne hk)) (fun _ _ => rfl) rfl rfl rfl rfl rfl rfl
theorem H_len {S : zS} (hI : zI S) (t : Nat) : (z_H S t).length ≤ 100 := by
  have b := hI.1.1
  have := nd_len (z_N S 1) (z_H S t) (hI.2.2.2.2.2.1.1 t) (fun a ha => (hI.2.2.2.2.1 t a ha).2.1)
  omega
theorem c_heldLoop {x t : Nat} {g : zG} {v : Int32} {Q : Int32 → xS → Prop} : ∀ (l : List Nat) (i n : Nat) (σ : xS) (S : zS) (B : Nat → List Nat), n = i + l.length → n < 1000 → z_H S t = l → RC x σ S g B → zI S → t < z_N S 0 → (∀ σ2 B2, RC x σ2 (z_frees S l t v) g B2 → Q (nI n) σ2) → ∀ f, l.length < f → wb_X6_answerHeld_11 Q x f σ (gT g t) v (nI n) (nI i) := by
  intro l
  induction l with
  | nil =>
    intro i n σ S B hn hn2 hH hR hI ht k f hf
    cases f with
    | zero => simp at hf
    | succ f =>
      have hni : n = i := by simpa using hn
      unfold wb_X6_answerHeld_11
      rw [nle (by omega) (by omega)]
      exact ⟨fun _ => k σ B hR, fun z => absurd (by omega) z⟩
  | cons a l ih =>
    intro i n σ S B hn hn2 hH hR hI ht k f hf
    cases f with
    | zero => simp at hf
    | succ f =>
      have hlen : n = i + (l.length + 1) := by simpa using hn
      obtain ⟨⟨hs1, hs2⟩, -⟩ := hI.1.2.1 t ht
      unfold wb_X6_answerHeld_11
      rw [nle (by omega) (by omega)]
      refine ⟨fun z => absurd z (by omega), fun _ => ⟨(hR.2.2.2.1.1 t ht).1, gT g t + 1, (hR.2.2.1.1 t ht).2.2.2, (hR.2.2.2.1.1 t ht).2.1, ?_⟩⟩
      refine c_takeH hR ht (fun e => by rw [hH] at e; cases e) (fun a2 l2 σ2 e q2 R2 lo2 => ⟨R2.1.1, fun z => (by cases z), fun a9 z => ?_⟩)
      cases z
      rw [hH] at e
      obtain ⟨rfl, rfl⟩ : a2 = a ∧ l2 = l := by
        have := List.cons.inj e
        exact ⟨this.1.symm, this.2.symm⟩
      obtain ⟨fa1, fa2, fa3⟩ := free_of_H hI (q := a2) (t := t) (by rw [hH]; exact List.mem_cons_self)
      obtain ⟨j1, j2, j3⟩ := I_tkH hI hH
      have fa : zFree (zs_H S t l2) a2 := fa1
      have ha1 : a2 < z_N (zs_H S t l2) 1 := fa1.1
      refine ⟨(R2.2.2.2.1.2.1 a2 ha1).1, c_answer R2 lo2 (fun σ3 _ _ k3 _ g72 g73 R3 => ⟨R3.1.1, (R3.2.2.2.1.1 t ht).1, ?_⟩)⟩
      have h1 : xh_I σ3 193 (gT g t) = z_F S 1 t := rI R3 1 t (by decide) ht
      rw [h1, hs1]
      refine c_settle R3 j1 fa j2 j3 fa2 g72 g73 hs2 (fun σ4 B4 _ R4 => ?_)
      rw [settle_H hH] at R4
      unfold wb_X6_answerHeld_49
      rw [nI_1]
      have hF := zFr_settle (p := a2) (S := S) (h := z_hs S t) (st := 1) (v := v)
      have hH1 : z_H (z_settle S a2 (z_hs S t) 1 v) t = l2 := by
        rw [HQ_settle.1]
        show (z_H S t).filter _ = l2
        rw [hH]
        exact drop_head (by rw [← hH]; exact hI.2.2.2.2.2.1.1 t)
      exact ih (i + 1) n σ4 (z_settle S a2 (z_hs S t) 1 v) B4 (by omega) hn2 hH1 R4 (I_settle hI fa1 fa3 fa2 zv1 hs2) (by rw [hF.1]; exact ht) k f (by simp at hf; omega)
theorem c_answerHeld {x t : Nat} {g : zG} {v : Int32} {Q : Int32 → xS → Prop} {σ : xS} {S : zS} {B : Nat → List Nat} (hR : RC x σ S g B) (hI : zI S) (ht : t < z_N S 0) (k : ∀ σ2 B2, RC x σ2 (z_free S t v) g B2 → Q (nI (z_H S t).length) σ2) : wp_X6_answerHeld σ x (gT g t) v Q := by
  have hl := H_len hI t
  have hsz : xh_I σ 2 (gT g t + 1) = nI (z_H S t).length := by
    have := (hR.2.2.2.2.1.1 (2, t) (lV_2 ht)).2.2.2.1
    rw [lL_2, List.length_map] at this
    exact this
  refine ⟨(hR.2.2.2.1.1 t ht).1, gT g t + 1, (hR.2.2.1.1 t ht).2.2.2, (hR.2.2.2.1.1 t ht).2.1, (z_H S t).length + 1, ?_⟩
  rw [hsz]
  have := c_heldLoop (v := v) (Q := Q) (z_H S t) 0 (z_H S t).length σ (zs_F S 8 t 0) B (by omega) (by omega) rfl (RC_8 hR) (I_8 hI) ht (fun σ2 B2 R2 => k σ2 B2 R2) ((z_H S t).length + 1) (by omega)
  rw [nI_0] at this
  exact this
theorem c_sum {σ : xS} {a : Nat} {L : List Nat} {Q : Int32 → Prop} (hL : zLn σ a L) (hk : ∀ b ∈ L, xh_k σ b = 2) (hlen : L.length < 1000) (k : Q ((L.map (fun b => xh_I σ 66 b)).foldl (· + ·) 0)) : wp_X0_sumOfNs σ a Q := by
  have key : ∀ (l : List Nat) (s : Int32) (i : Nat), i + l.length = L.length → zCh σ l → (∀ b ∈ l, xh_k σ b = 2) → Q ((l.map (fun b => xh_I σ 66 b)).foldl (· + ·) s) → wb_X0_sumOfNs_9 Q σ a (l.length + 1) s l.head? (nI i) := by
    intro l
    induction l with
    | nil =>
      intro s i hi _ _ kk
      unfold wb_X0_sumOfNs_9
      exact ⟨fun _ => kk, fun _ => ⟨fun _ => kk, fun a3 z => (by cases z)⟩⟩
    | cons b l ih =>
      intro s i hi hc hk kk
      have hi2 : i + (l.length + 1) = L.length := by simpa using hi
      unfold wb_X0_sumOfNs_9
      rw [hL.2.2.1, nle (by omega) (by omega)]
      refine ⟨fun z => absurd z (by omega), fun _ => ⟨fun z => (by cases z), fun a3 z => ?_⟩⟩
      cases z
      rw [hc.1, nI_1]
      exact ⟨hk b List.mem_cons_self, ih (s + xh_I σ 66 b) (i + 1) (by omega) hc.2 (fun c hc => hk c (List.mem_cons_of_mem _ hc)) kk⟩
  refine ⟨L.length + 1, ?_⟩
  rw [hL.1]
  have := key L 0 0 (by omega) hL.2.2.2 hk k
  rw [nI_0] at this
  exact this
theorem c_hold {x t p : Nat} {g : zG} {Q : xS → Prop} {σ : xS} {S : zS} {B : Nat → List Nat} (hR : RC x σ S g B) (hI : zI S) (hK : zK S) (hf : zHf S (some p)) (ht : t < z_N S 0) (hk : z_F S 2 t = 5 ∨ z_F S 2 t = 6) (hl : lose S g B (gM g p)) (k : ∀ σ2 B2, RC x σ2 (z_hj S p t) g B2 → Q σ2) : wp_X6_hold σ x (gT g t) (gM g p) Q := by
  have hp := (hf p rfl).1.1
  have hI2 : zI (z_hold S p t) := I_hold hI hf ht hk
  have hK2 : zK (z_hold S p t) := K_hold hK ht
  unfold wp_X6_hold
  refine ⟨(hR.2.2.2.1.2.1 p hp).1, fun σ1 e1 => ?_⟩
  have R1 : RC x σ1 (zs_F S 16 p 1) g B := R_F hR (k := 16) (i := p) e1 (by decide) hp
  refine ⟨(R1.2.2.2.1.1 t ht).1, gT g t + 1, (R1.2.2.1.1 t ht).2.2.2, (R1.2.2.2.1.1 t ht).2.1, ?_⟩
  refine c_addH R1 hp ht hl (fun σ2 _ R2 => ?_)
  have R2b : RC x σ2 (z_hold S p t) g B := by
    refine RC_S R2 (fun kk hk8 _ => ?_) (fun _ _ => rfl) rfl rfl rfl rfl rfl rfl
    funext j
    rw [zF_hold, if_neg (by omega)]
    show _ = z_F (zs_F S 16 p 1) kk j
    rw [zF_eq]
  have ht2 : t < z_N (z_hold S p t) 0 := ht
  obtain ⟨t1, t2, t3, t4, t5⟩ := k_of R2b ht2
  have e2 : z_F (z_hold S p t) 2 t = z_F S 2 t := by rw [zF_hold, if_neg (by omega), if_neg (by omega)]
  have e3 : z_F (z_hold S p t) 3 t = z_F S 3 t := by rw [zF_hold, if_neg (by omega), if_neg (by omega)]
  have hln := (R2b.2.2.2.2.1.1 (2, t) (lV_2 ht2)).2
  have hls := (R2b.2.2.2.2.1.2.2.1 (2, t) (lV_2 ht2)).2
  rw [lL_2] at hln hls
  have hsz : xh_I σ2 2 (gT g t + 1) = z_F (z_hold S p t) 8 t := by
    have := hln.2.2.1
    rw [List.length_map] at this
    rw [hK2 t ht2]; exact this
  rw [t2, t5, e2, e3]
  unfold z_hj at k
  refine ⟨R2b.1.1, t1, fun e5 => ⟨gT g t + 1, (R2b.2.2.1.1 t ht2).2.2.2, (R2b.2.2.2.1.1 t ht2).2.1, ?_⟩, fun n5 => ?_⟩
  · rw [hsz]
    refine ⟨fun hlt => ?_, fun hnl => ?_⟩
    · rw [if_neg (fun z => z.2 hlt)] at k
      exact k σ2 B R2b
    · rw [if_pos ⟨e5, hnl⟩] at k
      refine c_sum hln (fun b hb => (hls b hb).1) (by rw [List.length_map]; have := H_len hI2 t; omega) ?_
      have esum : (((z_H (z_hold S p t) t).map (gM g)).map (fun b => xh_I σ2 66 b)).foldl (· + ·) 0 = z_sumN (z_hold S p t) (z_H (z_hold S p t) t) := by
        unfold z_sumN
        rw [List.map_map]
        congr 1
        refine List.map_congr_left (fun q hq => ?_)
        exact rI R2b 18 q (by decide) (hI2.2.2.2.2.1 t q hq).2.1
      rw [esum]
      exact c_answerHeld R2b hI2 ht2 (fun σ3 B3 R3 => k σ3 B3 R3)
  · rw [if_neg (fun z => n5 z.1)] at k
    exact k σ2 B R2b
/-- a WHEN's message settles: nobody asked -/
theorem c_settleW {x b : Nat} {g : zG} {Q : xS → Prop} {σ : xS} {S : zS} {B : Nat → List Nat} {h : Int32} (hR : RC x σ S g B) (hk : xh_k σ b = 2) (h64 : xh_R σ 64 b = none) (hb : ∀ p, p < z_N S 1 → b ≠ gM g p) (k : ∀ σ2, RC x σ2 S g B → Q σ2) : wp_X6_settle σ x b h Q := by
  unfold wp_X6_settle
  refine ⟨hk, fun σ1 e1 => ⟨fun _ => k σ1 (R_w hR e1 (Or.inl rfl) hb), fun a4 z => ?_⟩⟩
  rw [e1, show xh_R (xs_I σ 74 b 0) = xh_R σ from rfl, h64] at z
  cases z
theorem c_sendW {x b u h : Nat} {g : zG} {n : Int32} {Q : xS → Prop} {σ : xS} {S : zS} {B : Nat → List Nat} (hR : RC x σ S g B) (hI : zI S) (hb : zHb σ S g B none b n) (hu : u < z_N S 0) (h68 : xh_R σ 68 b = some (gT g u)) (hh : h < 4) (k : ∀ σ2 B2, RC x σ2 (z_sw S h u n) g B2 → Q σ2) : wp_X6_send σ x b (nI h) Q := by
  obtain ⟨⟨a1, a2, a3, a4⟩, a5, a6, a7⟩ := hb
  obtain ⟨b1, b2, b3, b4, b5⟩ := a7 rfl
  obtain ⟨⟨hs1, hs2⟩, -⟩ := hI.1.2.1 u hu
  unfold wp_X6_send
  refine ⟨a1, fun σ1 e1 => ?_⟩
  have R1 := R_w hR e1 (Or.inl rfl) b5
  have Rr : xh_R σ1 = xh_R σ := by rw [e1]; rfl
  unfold wp_X1_destination
  rw [Rr, h68]
  refine ⟨fun z => (by cases z), fun a2' z => ?_⟩
  cases z
  have h1 : xh_I σ1 193 (gT g u) = nI (z_hs S u) := (rI R1 1 u (by decide) hu : xh_I σ1 193 (gT g u) = z_F S 1 u).trans hs1
  rw [h1]
  refine ⟨(R1.2.2.2.1.1 u hu).1, ?_⟩
  unfold wp_X6_post
  refine ⟨by rw [e1]; exact a1, fun σ2 e2 => ?_⟩
  have R2 := R_w R1 e2 (Or.inr rfl) b5
  refine c_wire R2 hh hs2 ⟨fun z => (by cases z), fun a6' z => ?_⟩
  cases z
  have hw16 : 4 * h + z_hs S u < 16 := by omega
  have h36 : xh_I σ2 323 (x + 6 + 2 * (4 * h + z_hs S u)) = z_F S 36 (4 * h + z_hs S u) := rI R2 36 _ (by decide) hw16
  have R2r : xh_R σ2 = xh_R σ := by rw [e2, e1]; rfl
  have I2 : ∀ f, ¬ f = 74 → ¬ f = 75 → xh_I σ2 f b = xh_I σ f b := fun f n1 n2 => by rw [e2, xI2, if_neg (fun z => n2 z.1), e1, xI2, if_neg (fun z => n1 z.1)]
  have K2 : xh_k σ2 = xh_k σ := by rw [e2, e1]; rfl
  have N2 : xh_n σ2 = xh_n σ := by rw [e2, e1]; rfl
  unfold z_sw at k
  rw [h36]
  refine ⟨(R2.2.2.2.1.2.2.2.1 _ hw16).1, fun z => ⟨x + 7 + 2 * (4 * h + z_hs S u), (R2.2.2.1.2.2.2 _ hw16).2.2.2, (R2.2.2.2.1.2.2.2.1 _ hw16).2, ?_⟩, fun z => ⟨fun _ => ⟨by rw [K2]; exact a1, ?_⟩, fun y => absurd rfl y⟩⟩
  · rw [if_pos z] at k
    have hlt : zLt σ2 S g b (2, 0, some u, none, n, 0) := Or.inr (Or.inr ⟨rfl, ⟨by rw [R2r]; exact b1, by rw [I2 _ (by omega) (by omega)]; exact b3, by rw [I2 _ (by omega) (by omega)]; exact b4, by rw [R2r]; exact b2⟩, b5, by rw [I2 _ (by omega) (by omega)]; exact a3, by rw [R2r]; exact h68, by rw [R2r]; exact a4⟩)
    exact c_addW R2 hw16 (by rw [K2]; exact a1) (by rw [N2]; exact a2) a5 hlt (fun σ3 _ R3 => ⟨R3.1.1, fun y => absurd y (by decide), fun _ => k σ3 _ R3⟩)
  · rw [if_neg z] at k
    unfold wp_X1_breakByCut
    rw [R2r, b2]
    refine ⟨fun _ => ?_, fun a y => (by cases y)⟩
    refine c_answer R2 a5 (fun σ3 _ r3 k3 _ _ _ R3 => ⟨R3.1.1, ?_⟩)
    exact c_settleW R3 (by rw [k3, K2]; exact a1) (by rw [r3, R2r]; exact b1) b5 (fun σ4 R4 => k σ4 B R4)
theorem c_takeTurn {x : Nat} {σ : xS} {S : zS} {g : zG} {B : Nat → List Nat} {hand : Option Nat} {t b : Nat} {act n : Int32} {Q : xS → Prop} (hin : zIn x σ S g B hand t b act n) (hK : zK S) (k : ∀ σ2 g2 B2, RC x σ2 (z_hear S hand t act n) g2 B2 → Q σ2) : wp_X6_takeTurn σ x (gT g t) b Q := by
  have key : ∀ (σ1 : xS) (S1 : zS), zIn x σ1 S1 g B hand t b act n → zK S1 → (∀ σ2 g2 B2, RC x σ2 (z_hear1 S1 hand t act n) g2 B2 → Q σ2) → wp_X6_hear σ1 x (gT g t) b (fun x2 σ3 => (x2 = 1 → wp_X6_hold σ3 x (gT g t) b (fun σ5 => wb_X6_takeTurn_74 Q σ5 x)) ∧ (¬ x2 = 1 → (x2 = 3 → xh_k σ3 (gT g t) = 4 ∧ (wp_X6_send σ3 x b (xh_I σ3 193 (gT g t)) (fun σ8 => wb_X6_takeTurn_74 Q σ8 x))) ∧ (¬ x2 = 3 → xh_k σ3 (gT g t) = 4 ∧ (wp_X6_settle σ3 x b (xh_I σ3 193 (gT g t)) (fun σ10 => wb_X6_takeTurn_74 Q σ10 x))))) := by
    intro σ1 S1 hin hK kq
    refine c_hear hin hK (fun r σ2 hoc => ?_)
    obtain ⟨S2, g2, R2, hb, hI2, ht2, hg2, hfr, hc⟩ := hoc
    obtain ⟨t1, t2, t3, t4, t5⟩ := k_of R2 ht2
    obtain ⟨⟨hs1, hs2⟩, -⟩ := hI2.1.2.1 t ht2
    rw [hg2] at t1 t4
    rcases hc with ⟨rfl, h20, hT⟩ | ⟨rfl, u, hu, h68, hT⟩ | ⟨rfl, p, hp, h20, hkd, hK2, hT⟩
    · refine ⟨fun z => absurd z (by decide), fun _ => ⟨fun z => absurd z (by decide), fun _ => ⟨t1, ?_⟩⟩⟩
      rw [t4, hs1]
      rw [hT] at kq
      cases hand with
      | none =>
        obtain ⟨b1, b2, b3, b4, b5⟩ := hb.2.2.2 rfl
        exact c_settleW R2 hb.1.1 b1 b5 (fun σ3 R3 => kq σ3 g2 B R3)
      | some p =>
        obtain ⟨e1, e2⟩ := hb.2.2.1 p rfl
        obtain ⟨f1, f2, f3⟩ := hfr p rfl
        subst e1
        exact c_settle R2 hI2 f1 (notin_H hI2 (by rw [f3]; decide)) (notin_Q hI2 (by rw [f3]; decide)) (h20 p rfl) rfl rfl hs2 (fun σ3 B3 _ R3 => kq σ3 g2 B3 R3)
    · refine ⟨fun z => absurd z (by decide), fun _ => ⟨fun _ => ⟨t1, ?_⟩, fun z => absurd rfl z⟩⟩
      rw [t4, hs1]
      rw [hT] at kq
      cases hand with
      | none => exact c_sendW R2 hI2 hb hu h68 hs2 (fun σ3 B3 R3 => kq σ3 g2 B3 R3)
      | some p =>
        obtain ⟨e1, e2⟩ := hb.2.2.1 p rfl
        obtain ⟨f1, f2, f3⟩ := hfr p rfl
        subst e1
        exact c_send R2 hI2 f1 (notin_H hI2 (by rw [f3]; decide)) (notin_Q hI2 (by rw [f3]; decide)) (th := some u) (asked := none) hb.1.2.2.1 h68 hb.1.2.2.2 (Or.inl ⟨u, hu, rfl, rfl⟩) hs2 (fun σ3 B3 _ R3 => kq σ3 g2 B3 R3)
    · refine ⟨fun _ => ?_, fun z => absurd rfl z⟩
      rw [hT] at kq
      subst hp
      obtain ⟨e1, e2⟩ := hb.2.2.1 p rfl
      obtain ⟨f1, f2, f3⟩ := hfr p rfl
      subst e1
      rw [← hg2]
      exact c_hold R2 hI2 hK2 (fun q e => by cases e; exact ⟨f1, f2, h20, f3⟩) ht2 hkd hb.2.1 (fun σ3 B3 R3 => kq σ3 g2 B3 R3)
  unfold wp_X6_takeTurn
  intro σ1 e1
  unfold z_hear at k
  obtain ⟨hR, hI, hf, ht, hb, h65, h66, hn, hs⟩ := hin
  rw [show xh_I σ 392 x = z_u S from hR.1.2.2.2.2.1] at e1
  have hin1 : ∀ v, σ1 = xs_I σ 392 x v → zIn x σ1 (zs_u S v) g B hand t b act n := fun v e => ⟨R_u hR e, I_u hI, hf, ht, Hb_I hb (by rw [e]; rfl) (by rw [e]; rfl) (fun f hf => by rw [e, xI2, if_neg (by omega)]) (fun f hf => by rw [e]; rfl) id rfl, by rw [e, xI2, if_neg (by omega)]; exact h65, by rw [e, xI2, if_neg (by omega)]; exact h66, hn, hs⟩
  have hK1 : ∀ v, zK (zs_u S v) := fun v => hK
  exact key σ1 _ (hin1 _ e1) (hK1 _) k
theorem c_reach {x p q : Nat} {g : zG} {Q : xS → Prop} {σ : xS} {S : zS} {B : Nat → List Nat} (hR : RC x σ S g B) (hI : zI S) (hf : zHf S (some p)) (hq : q < z_N S 1) (hl : lose S g B (gM g p)) (h71 : xh_I σ 71 (gM g p) = 0) (k : ∀ σ2 B2, RC x σ2 (if z_F S 11 q = 0 then z_wait S p q else z_go S p (z_hm S q) (z_F S 11 q) (z_F S 12 q)) g B2 → Q σ2) : wp_X6_reachPromise σ x (gM g p) (gM g q + 1) Q := by
  obtain ⟨f1, f2, f3, f4⟩ := hf p rfl
  have hp := f1.1
  have h11 : xh_I σ 133 (gM g q + 1) = z_F S 11 q := rI hR 11 q (by decide) hq
  unfold wp_X6_reachPromise
  rw [h11]
  refine ⟨(hR.2.2.2.1.2.1 q hq).2.1, fun e0 => ⟨(hR.2.2.2.1.2.1 p hp).1, fun σ1 e1 => ?_⟩, fun n0 => ?_⟩
  · rw [if_pos e0] at k
    have R1 : RC x σ1 (zs_F S 16 p 2) g B := R_F hR (k := 16) (i := p) e1 (by decide) hp
    refine ⟨gM g q + 2, (R1.2.2.1.2.1 q hq).2.2.2.1, (R1.2.2.2.1.2.1 q hq).2.2.1, ?_⟩
    exact c_addQ R1 hp hq hl (by rw [e1, xI2, if_neg (by omega)]; exact h71) (fun σ2 _ R2 => ⟨R2.1.1, k σ2 B R2⟩)
  · rw [if_neg n0] at k
    exact c_sendOn hR hI f1 (notin_H hI (by rw [f4]; decide)) (notin_Q hI (by rw [f4]; decide)) f3 h71 hq ((hI.2.2.2.2.2.2.2.2.2.2.2 q hq).2 n0) (fun σ2 B2 _ R2 => k σ2 B2 R2)
theorem c_receive {x p u : Nat} {g : zG} {st v : Int32} {Q : xS → Prop} {σ : xS} {S : zS} {B : Nat → List Nat} (hR : RC x σ S g B) (hI : zI S) (hf : zFree S p) (hl : lose S g B (gM g p)) (hz : zval S st v) (h71 : xh_I σ 71 (gM g p) = 1) (h72 : xh_I σ 72 (gM g p) = st) (h73 : xh_I σ 73 (gM g p) = v) (hu : (u = z_hm S p) ∨ (u = z_ak S p ∧ ¬ z_ak S p = z_hm S p ∧ ¬ z_F S 11 p = 0 ∧ z_F S 13 p = 0)) (k : ∀ σ2 B2, RC x σ2 (if u = z_hm S p then z_due S p st v else z_arr S p st v) g B2 → Q σ2) : wp_X6_receiveAnswer σ x (gM g p) (nI u) Q := by
  have hp := hf.1
  obtain ⟨⟨ha1, ha2⟩, ⟨hm1, hm2⟩, -⟩ := hI.1.2.2.1 p hp
  have h64 : xh_R σ 64 (gM g p) = some (gM g p + 1) := (hR.2.2.1.2.1 p hp).2.2.2.2.1
  have h10 : xh_I σ 130 (gM g p + 1) = nI (z_hm S p) := (rI hR 10 p (by decide) hp : xh_I σ 130 (gM g p + 1) = z_F S 10 p).trans hm1
  unfold wp_X6_receiveAnswer
  rw [h64]
  refine ⟨(hR.2.2.2.1.2.1 p hp).1, fun z => (by cases z), fun a3 z => ?_⟩
  cases z
  rw [h10, nI_eq (by omega) (by omega)]
  refine ⟨(hR.2.2.2.1.2.1 p hp).2.1, fun e => ?_, fun ne => ?_⟩
  · rw [if_pos e] at k
    exact c_addD hR hp hl h71 h72 h73 (fun σ2 _ R2 => ⟨R2.1.1, k σ2 B R2⟩)
  · rw [if_neg ne] at k
    rcases hu with z | ⟨z1, z2, z3, z4⟩
    · exact absurd z ne
    · exact c_tellAsker hR hI hf z3 z4 z2 hz h72 h73 (fun σ2 B2 R2 => k σ2 B2 R2)
/-- a wire's first letter comes -/
theorem c_deliverFirst {x w : Nat} {g : zG} {Q : Int32 → xS → Prop} {σ : xS} {S : zS} {B : Nat → List Nat} (hR : RC x σ S g B) (hI : zI S) (hK : zK S) (hw : w < 16) (k0 : z_W S w = [] → Q (-9) σ) (k1 : ∀ l ls σ2 g2 B2, z_W S w = l :: ls → RC x σ2 (z_come (z_off S w l ls) l) g2 B2 → Q (z_lk l) σ2) : wp_X6_deliverFirst σ x (x + 6 + 2 * w) Q := by
  have b := hI.1.1
  unfold wp_X6_deliverFirst
  refine ⟨(hR.2.2.2.1.2.2.2.1 w hw).1, x + 7 + 2 * w, (hR.2.2.1.2.2.2 w hw).2.2.2, (hR.2.2.2.1.2.2.2.1 w hw).2, ?_⟩
  refine c_takeW hR hw (fun e => ⟨hR.1.1, fun _ => k0 e, fun a z => (by cases z)⟩) (fun b bs l ls σ2 e q hkb hbn R2 lo2 hlt => ⟨R2.1.1, fun z => (by cases z), fun a8 z => ?_⟩)
  cases z
  obtain ⟨a1, a2, a3, a4, a5⟩ := I_off hI e
  have kk := fun σ3 g3 B3 => k1 l ls σ3 g3 B3 e
  have R2b : RC x σ2 (z_off S w l ls) g (va_up B w bs) := RC_40 R2
  have lo2b : lose (z_off S w l ls) g (va_up B w bs) b := lo2
  have hKo : zK (z_off S w l ls) := hK.kh ⟨rfl, funext (fun _ => zF_ne (by omega)), rfl⟩
  have hN1 : z_N (z_off S w l ls) 1 = z_N S 1 := rfl
  have hN0 : z_N (z_off S w l ls) 0 = z_N S 0 := rfl
  have kb2 : xh_k σ2 b = 2 := by rw [q.1.1]; exact hkb
  have nb2 : b < xh_n σ2 := by rw [q.1.2.1]; exact hbn
  have h321 : xh_I σ2 321 (x + 6 + 2 * w) = nI (w % 4) := (R2.2.2.1.2.2.2 w hw).2.2.1
  have k6 : xh_k σ2 (x + 6 + 2 * w) = 6 := (R2.2.2.2.1.2.2.2.1 w hw).1
  generalize z_off S w l ls = T at *
  refine ⟨kb2, ?_⟩
  unfold wp_X1_whatLetter
  -- an answer
  have ans : (l.1 = 1 ∨ l.1 = 3) → b = gM g l.2.1 → xh_I σ2 71 b = 1 → xh_I σ2 72 b = l.2.2.2.2.1 → xh_I σ2 73 b = l.2.2.2.2.2 → wp_X6_receiveAnswer σ2 x b (nI (w % 4)) (fun σ24 => Q 1 σ24) := by
    intro h13 hb h71 h72 h73
    have hlk : z_lk l = 1 := by
      unfold z_lk
      rcases h13 with z | z
      · rw [z]; rfl
      · rw [if_pos z]
    rw [hlk] at kk
    subst hb
    refine c_receive R2b a1 (a2 (by omega)) lo2b (lval a5 h13) h71 h72 h73 ?_ (fun σ3 B3 R3 => kk σ3 g B3 ?_)
    · rcases a5 with ⟨c1, -⟩ | ⟨c1, c2, c3, c4, c5, -⟩ | ⟨c1, c2, c3, c4, c5, c6, c7, -⟩ | ⟨c1, -⟩
      · omega
      · exact Or.inl c5
      · exact Or.inr ⟨c6, c7, c4, c5⟩
      · omega
    · unfold z_come
      rcases a5 with ⟨c1, -⟩ | ⟨c1, c2, c3, c4, c5, -⟩ | ⟨c1, c2, c3, c4, c5, c6, c7, -⟩ | ⟨c1, -⟩
      · omega
      · rw [if_pos c5] at R3
        rw [if_pos c1]; exact R3
      · rw [if_neg (by rw [c6]; exact c7)] at R3
        rw [if_neg (by omega), if_pos c1]; exact R3
      · omega
  rcases hlt with ⟨l1, l2, l3, l4, l5⟩ | ⟨l1, l2, l3, l4, l5⟩ | ⟨l1, ⟨l2, l3, l4, l5⟩, l6, l7, l8, l9⟩
  · -- a message
    have hlk : z_lk l = 0 := by unfold z_lk; rw [l1]; rfl
    rw [hlk] at kk
    have hf := a2 (by omega)
    have hp := hf.1
    obtain ⟨c1, c2, c3, c4, c5, c6⟩ : l.1 = 0 ∧ l.2.1 < z_N T 1 ∧ z_F T 16 l.2.1 = 3 ∧ z_F T 11 l.2.1 = 0 ∧ ((∃ t, t < z_N T 0 ∧ l.2.2.1 = some t ∧ l.2.2.2.1 = none) ∨ (∃ q, q < z_N T 1 ∧ l.2.2.1 = none ∧ l.2.2.2.1 = some q ∧ z_F T 20 l.2.1 < 0)) ∧ l.2.2.2.2 = (0, 0) := by
      rcases a5 with c | ⟨c, -⟩ | ⟨c, -⟩ | ⟨c, -⟩
      · exact c
      · omega
      · omega
      · omega
    have h64 : xh_R σ2 64 b = some (gM g l.2.1 + 1) := by rw [l2]; exact (R2b.2.2.1.2.1 _ hp).2.2.2.2.1
    rw [l3, h64]
    refine ⟨fun _ => ⟨fun z => (by cases z), fun a z => ⟨fun _ => ?_, fun z => absurd rfl z⟩⟩, fun z => absurd rfl z⟩
    intro σ3 e3
    rw [e3, xR2, if_neg (by omega), xR2, if_neg (by omega), l4, l5]
    rw [← e3]
    rcases c5 with ⟨t, z1, z2, z3⟩ | ⟨q2, z1, z2, z3, z4⟩
    · rw [z2, z3]
      refine ⟨fun _ => ⟨fun z => (by cases z), fun a19 z => ?_⟩, fun a z => (by cases z)⟩
      have ea : gT g t = a19 := by
        have : some (gT g t) = some a19 := z
        exact Option.some.inj this
      subst ea
      rw [come_t (by omega) (by omega) z2, if_pos l1] at kk
      obtain ⟨i1, i2⟩ := zHn_msg a1 hf a5 l1 rfl z2
      have R3 : RC x σ3 (zs_F T 20 l.2.1 (-1)) g (va_up B w bs) := R_20 R2b hp (by rw [← l2]; exact lo2b) (by rw [zO_neg (by decide), ← l2]; exact e3)
      have h17 : xh_I σ3 65 b = z_F T 17 l.2.1 := by
        have : xh_I σ3 65 (gM g l.2.1) = z_F (zs_F T 20 l.2.1 (-1)) 17 l.2.1 := rI R3 17 l.2.1 (by decide) hp
        rw [l2, this, zF_ne (by omega)]
      have h18 : xh_I σ3 66 b = z_F T 18 l.2.1 := by
        have : xh_I σ3 66 (gM g l.2.1) = z_F (zs_F T 20 l.2.1 (-1)) 18 l.2.1 := rI R3 18 l.2.1 (by decide) hp
        rw [l2, this, zF_ne (by omega)]
      refine c_takeTurn (hand := some l.2.1) ⟨R3, i1, i2.1, z1, ⟨⟨by rw [e3]; exact kb2, by rw [e3]; exact nb2, by rw [e3]; exact l3, by rw [e3, xR2, if_neg (by omega), l5, z3]; rfl⟩, lo2b, fun p ep => ?_, fun z => (by cases z)⟩, h17, h18, fun z => (by cases z), fun p ep => ?_⟩ (hKo.kh (kh_F (k := 20))) (fun σ4 g4 B4 R4 => kk σ4 g4 B4 R4)
      · cases ep; exact ⟨l2, hp⟩
      · cases ep
        exact ⟨zF_ne (by omega), zF_ne (by omega)⟩
    · rw [z2, z3]
      refine ⟨fun z => (by cases z), fun a16 z => ?_⟩
      have ea : gM g q2 + 1 = a16 := by
        have : some (gM g q2 + 1) = some a16 := z
        exact Option.some.inj this
      subst ea
      rw [come_q (by omega) (by omega) z2 z3] at kk
      have eid : zs_F T 20 l.2.1 (z_F T 20 l.2.1) = T := F_id rfl
      have R3 : RC x σ3 T g (va_up B w bs) := by
        have : RC x σ3 (zs_F T 20 l.2.1 (z_F T 20 l.2.1)) g (va_up B w bs) := R_20 R2b hp (by rw [← l2]; exact lo2b) (by rw [zO_neg z4, ← l2]; exact e3)
        rw [eid] at this
        exact this
      rw [l2]
      refine c_reach R3 a1 (fun p ep => by cases ep; exact ⟨hf, c4, z4, c3⟩) z1 (by rw [← l2]; exact lo2b) (by rw [← l2, e3]; exact l3) (fun σ4 B4 R4 => kk σ4 g B4 R4)
  · rw [l3]
    refine ⟨fun z => absurd z (by decide), fun _ => ⟨fun z => absurd z (by decide), fun _ => ⟨k6, ?_⟩⟩⟩
    rw [h321]
    exact ans l1 l2 l3 l4 l5
  · have hlk : z_lk l = 2 := by unfold z_lk; rw [l1]; rfl
    rw [hlk] at kk
    rw [l7, l2]
    refine ⟨fun _ => ⟨fun _ => ⟨fun _ => ?_, fun z => absurd rfl z⟩, fun a z => (by cases z)⟩, fun z => absurd rfl z⟩
    intro σ3 e3
    obtain ⟨c1, c2, ⟨t, c3, c4⟩, c5, c6⟩ : l.1 = 2 ∧ l.2.1 = 0 ∧ (∃ t, t < z_N T 0 ∧ l.2.2.1 = some t) ∧ l.2.2.2.1 = none ∧ l.2.2.2.2.2 = 0 := by
      rcases a5 with ⟨c, -⟩ | ⟨c, -⟩ | ⟨c, -⟩ | c
      · omega
      · omega
      · omega
      · exact c
    rw [e3, xR2, if_neg (by omega), xR2, if_neg (by omega), l8, l9, c4]
    rw [← e3]
    refine ⟨fun _ => ⟨fun z => (by cases z), fun a19 z => ?_⟩, fun a z => (by cases z)⟩
    have ea : gT g t = a19 := by
      have : some (gT g t) = some a19 := z
      exact Option.some.inj this
    subst ea
    rw [come_t (by omega) (by omega) c4, if_neg (by omega)] at kk
    have l6b : ∀ p, p < z_N T 1 → b ≠ gM g p := fun p hp => l6 p (by rw [← hN1]; exact hp)
    have R3 : RC x σ3 T g (va_up B w bs) := R_70 R2b e3 lo2b (fun _ _ => rfl) rfl rfl rfl rfl rfl rfl rfl (fun p hp => by
      rw [e3, xR2, if_neg (fun y => l6b p hp y.2.symm)]
      exact (R2b.2.2.1.2.1 p hp).2.2.2.2.2.1)
    refine c_takeTurn (hand := none) ⟨R3, a1, fun p ep => (by cases ep), c3, ⟨⟨by rw [e3]; exact kb2, by rw [e3]; exact nb2, by rw [e3]; exact l7, by rw [e3, xR2, if_neg (by omega)]; exact l9⟩, lo2b, fun p ep => (by cases ep), fun _ => ⟨by rw [e3, xR2, if_neg (by omega)]; exact l2, by rw [e3, xR2, if_pos ⟨rfl, rfl⟩], by rw [e3]; exact l3, by rw [e3]; exact l4, l6b⟩⟩, by rw [e3]; exact l3, by rw [e3]; exact l4, fun _ => rfl, fun p ep => (by cases ep)⟩ hKo (fun σ4 g4 B4 R4 => kk σ4 g4 B4 R4)
/-- a wire's first letter is lost -/
theorem c_loseFirst {x w : Nat} {g : zG} {Q : xS → Prop} {σ : xS} {S : zS} {B : Nat → List Nat} (hR : RC x σ S g B) (hI : zI S) (hw : w < 16) {l : zL} {ls : List zL} (eW : z_W S w = l :: ls) (k1 : ∀ σ2 B2, RC x σ2 (z_lost (z_off S w l ls) l (w / 4)) g B2 → Q σ2) : wp_X6_loseFirst σ x (x + 6 + 2 * w) Q := by
  have b := hI.1.1
  unfold wp_X6_loseFirst
  refine ⟨(hR.2.2.2.1.2.2.2.1 w hw).1, x + 7 + 2 * w, (hR.2.2.1.2.2.2 w hw).2.2.2, (hR.2.2.2.1.2.2.2.1 w hw).2, ?_⟩
  refine c_takeW hR hw (fun e => by rw [e] at eW; cases eW) (fun b bs l' ls' σ2 e q hkb hbn R2 lo2 hlt => ⟨R2.1.1, fun z => (by cases z), fun a8 z => ?_⟩)
  cases z
  rw [e] at eW
  obtain ⟨rfl, rfl⟩ : l' = l ∧ ls' = ls := List.cons.inj eW
  obtain ⟨a1, a2, a3, a4, a5⟩ := I_off hI e
  have R2b : RC x σ2 (z_off S w l' ls') g (va_up B w bs) := RC_40 R2
  have lo2b : lose (z_off S w l' ls') g (va_up B w bs) b := lo2
  have hN1 : z_N (z_off S w l' ls') 1 = z_N S 1 := rfl
  have kb2 : xh_k σ2 b = 2 := by rw [q.1.1]; exact hkb
  have hw4 : w / 4 < 4 := by omega
  generalize z_off S w l' ls' = T at *
  refine ⟨kb2, ?_⟩
  unfold z_lost at k1
  have k6 : ∀ σ3 S3 B3, RC x σ3 S3 g B3 → xh_k σ3 (x + 6 + 2 * w) = 6 ∧ xh_I σ3 320 (x + 6 + 2 * w) = nI (w / 4) ∧ xh_I σ3 321 (x + 6 + 2 * w) = nI (w % 4) := fun σ3 S3 B3 R3 => ⟨(R3.2.2.2.1.2.2.2.1 w hw).1, (R3.2.2.1.2.2.2 w hw).2.1, (R3.2.2.1.2.2.2 w hw).2.2.1⟩
  rcases hlt with ⟨l1, l2, l3, l4, l5⟩ | ⟨l1, l2, l3, l4, l5⟩ | ⟨l1, ⟨l2, l3, l4, l5⟩, l6, l7, l8, l9⟩
  · have hf := a2 (by omega)
    have hp := hf.1
    obtain ⟨c3, c4⟩ : z_F T 16 l'.2.1 = 3 ∧ z_F T 11 l'.2.1 = 0 := by
      rcases a5 with ⟨-, -, c3, c4, -⟩ | ⟨c, -⟩ | ⟨c, -⟩ | ⟨c, -⟩
      · exact ⟨c3, c4⟩
      · omega
      · omega
      · omega
    rw [if_pos l1] at k1
    subst l2
    refine c_break R2b a1 hp lo2b (fun σ3 f3 g72 g73 g71 R3 => ⟨R3.1.1, ?_⟩)
    obtain ⟨i3, h20⟩ := I_unmove (p := l'.2.1) a1
    have fr := zFr_unmove (p := l'.2.1) (S := T)
    have hp3 : l'.2.1 < z_N (z_unmove T l'.2.1) 1 := by rw [fr.1]; exact hp
    obtain ⟨w1, w2, w3⟩ := k6 σ3 _ _ R3
    rw [g71, l3, w2]
    refine ⟨(R3.2.2.2.1.2.1 _ hp3).1, fun _ => ⟨w1, ?_⟩, fun z => absurd rfl z⟩
    have hHn : ∀ t, l'.2.1 ∉ z_H (z_unmove T l'.2.1) t := by rw [HQ_unmove.1]; exact notin_H a1 (by rw [c3]; decide)
    have hQn : ∀ t, l'.2.1 ∉ z_Q (z_unmove T l'.2.1) t := by rw [HQ_unmove.2]; exact notin_Q a1 (by rw [c3]; decide)
    exact c_settle R3 i3 (free_unmove hf) hHn hQn h20 g72 g73 hw4 (fun σ4 B4 _ R4 => k1 σ4 B4 R4)
  · have hf := a2 (by omega)
    have hp := hf.1
    have c16 : z_F T 16 l'.2.1 = 0 := by
      rcases a5 with ⟨c, -⟩ | ⟨-, -, c3, -⟩ | ⟨-, -, c3, -⟩ | ⟨c, -⟩
      · omega
      · exact c3
      · exact c3
      · omega
    have h20 : z_F T 20 l'.2.1 < 0 := by
      rcases a1.2.2.2.2.2.2.2.2.2.2.1 _ hp with z | ⟨z, -⟩
      · exact z
      · rw [c16] at z; exact absurd z (by decide)
    rw [if_neg (by omega)] at k1
    subst l2
    have eun : z_unmove T l'.2.1 = T := by unfold z_unmove; rw [if_pos h20]
    refine c_break R2b a1 hp lo2b (fun σ3 f3 g72 g73 g71 R3 => ⟨R3.1.1, ?_⟩)
    rw [eun] at R3
    obtain ⟨w1, w2, w3⟩ := k6 σ3 _ _ R3
    have g71b : xh_I σ3 71 (gM g l'.2.1) = 1 := by rw [g71]; exact l3
    rw [g71b, w3]
    refine ⟨(R3.2.2.2.1.2.1 _ hp).1, fun z => absurd z (by decide), fun _ => ⟨w1, ?_⟩⟩
    refine c_receive R3 a1 hf lo2b zv3 g71b g72 g73 ?_ (fun σ4 B4 R4 => k1 σ4 B4 ?_)
    · rcases a5 with ⟨c1, -⟩ | ⟨c1, c2, c3, c4, c5, -⟩ | ⟨c1, c2, c3, c4, c5, c6, c7, -⟩ | ⟨c1, -⟩
      · omega
      · exact Or.inl c5
      · exact Or.inr ⟨c6, c7, c4, c5⟩
      · omega
    · rcases a5 with ⟨c1, -⟩ | ⟨c1, c2, c3, c4, c5, -⟩ | ⟨c1, c2, c3, c4, c5, c6, c7, -⟩ | ⟨c1, -⟩
      · omega
      · rw [if_pos c5] at R4
        rw [if_pos c1]; exact R4
      · rw [if_neg (by rw [c6]; exact c7)] at R4
        rw [if_neg (by omega), if_pos c1]; exact R4
      · omega
  · rw [if_neg (by omega), if_neg (by omega), if_neg (by omega)] at k1
    have l6b : ∀ p, p < z_N T 1 → b ≠ gM g p := fun p hp => l6 p (by rw [← hN1]; exact hp)
    unfold wp_X1_breakByCut
    rw [l5]
    refine ⟨fun _ => ?_, fun a z => (by cases z)⟩
    refine c_answer R2b lo2b (fun σ3 I3 r3 k3 _ _ _ R3 => ⟨R3.1.1, by rw [k3]; exact kb2, ?_⟩)
    obtain ⟨w1, w2, w3⟩ := k6 σ3 _ _ R3
    rw [I3 71 b (by omega), l7, w2]
    exact ⟨fun _ => ⟨w1, c_settleW R3 (by rw [k3]; exact kb2) (by rw [r3]; exact l2) l6b (fun σ4 R4 => k1 σ4 _ R4)⟩, fun z => absurd rfl z⟩
