theorem c_askOp {x : Nat} {σ : xS} {S : zS} {g : zG} {B : Nat → List Nat} {h k to act n o : Int32} {Q : Int32 → xS → Prop} (hR : RC x σ S g B) (hJ : zJ S) (kk : ∀ σ2 g2 B2, RC x σ2 (zo_ask S h k to act n o).2 g2 B2 → Q (zo_ask S h k to act n o).1 σ2) : wp_X6_ask σ x h k to act n o Q := by
  have b := hJ.1.1.1
  unfold zo_ask at kk
  have bad : (zix 4 h = none ∨ (za_t S k to = none ∧ za_p S k to = none) ∨ (act < 0 ∨ 7 < act) ∨ (act = 4 ∧ zix (z_N S 0) o = none)) → wb_X6_ask_89 Q σ x := by
    intro z; rw [if_pos z] at kk; exact kk σ g B hR
  -- who is meant, checked and let in
  have k108 : ∀ l9, (act = 4 → l9 = zO g o) → ¬ (zix 4 h = none ∨ (za_t S k to = none ∧ za_p S k to = none) ∨ (act < 0 ∨ 7 < act) ∨ (act = 4 ∧ zix (z_N S 0) o = none)) → za_k S (za_p S k to) h = true → wb_X6_ask_108 Q σ x h act n (zOT g (za_t S k to)) (zOP g (za_p S k to)) l9 := by
    intro l9 hl9 hn hk
    rw [if_neg hn, if_neg (by rw [hk]; decide)] at kk
    by_cases h100 : z_N S 1 = 100
    · rw [if_pos h100] at kk
      unfold wb_X6_ask_108
      rw [hR.1.2.2.1, h100]
      exact ⟨fun z => absurd z (by decide), fun _ => kk σ g B hR⟩
    · rw [if_neg h100] at kk
      obtain ⟨a, y, rfl, rfl, hA⟩ := ak_of hJ.1 hn h100
      rw [cl40 (by have := hA.1; omega)] at kk
      exact c_ask108 hR hJ hA (fun e => hl9 (by rw [e]; rfl)) kk
  have k91 : ∀ l9, (act = 4 → l9 = zO g o) → ¬ (zix 4 h = none ∨ (za_t S k to = none ∧ za_p S k to = none) ∨ (act < 0 ∨ 7 < act) ∨ (act = 4 ∧ zix (z_N S 0) o = none)) → wb_X6_ask_91 Q σ x h act n (zOT g (za_t S k to)) (zOP g (za_p S k to)) l9 := by
    intro l9 hl9 hn
    unfold wb_X6_ask_91
    cases ep : za_p S k to with
    | none =>
      have := k108 l9 hl9 hn (by rw [ep]; rfl)
      rw [ep] at this
      exact ⟨fun _ => this, fun a z => (by cases z)⟩
    | some q =>
      have hq : q < z_N S 1 := by
        unfold za_p at ep
        split at ep
        · exact (ix_some ep).1
        · cases ep
      have ek : za_k S (za_p S k to) h = decide (z_F S 9 q = h ∨ z_F S 10 q = h) := by rw [ep]; rfl
      refine ⟨fun z => (by cases z), fun a25 z => ?_⟩
      have ea : gM g q + 1 = a25 := by
        have : some (gM g q + 1) = some a25 := z
        exact Option.some.inj this
      subst ea
      refine ⟨(hR.2.2.2.1.2.1 q hq).2.1, c_known hR hq (fun z => ⟨fun _ => ?_, fun y => absurd rfl y⟩) (fun z => ⟨fun y => absurd y (by decide), fun _ => ?_⟩)⟩
      · rw [if_neg hn, if_pos (by rw [ek]; exact decide_eq_false z)] at kk
        exact kk σ g B hR
      · have := k108 l9 hl9 hn (by rw [ek]; exact decide_eq_true z)
        rw [ep] at this
        exact this
  have k66 : ∀ l9, (act = 4 → l9 = zOT g (zix (z_N S 0) o)) → ¬ zix 4 h = none → ¬ (za_t S k to = none ∧ za_p S k to = none) → wb_X6_ask_66 Q σ x h act n (zOT g (za_t S k to)) (zOP g (za_p S k to)) l9 := by
    intro l9 hl9 nh ns
    unfold wb_X6_ask_66
    refine ⟨fun z => bad (Or.inr (Or.inr (Or.inl (Or.inl z)))), fun n1 => ⟨fun z => bad (Or.inr (Or.inr (Or.inl (Or.inr z)))), fun n2 => ⟨fun e4 => ?_, fun n4 => ?_⟩⟩⟩
    · have e9 := hl9 e4
      cases eo : zix (z_N S 0) o with
      | none =>
        rw [eo] at e9
        subst e9
        exact ⟨fun _ => bad (Or.inr (Or.inr (Or.inr ⟨e4, eo⟩))), fun a z => (by cases z)⟩
      | some u =>
        obtain ⟨hu, eu⟩ := ix_some eo
        rw [eo] at e9
        subst e9
        refine ⟨fun z => (by cases z), fun a35 z => ?_⟩
        have hn : ¬ (zix 4 h = none ∨ (za_t S k to = none ∧ za_p S k to = none) ∨ (act < 0 ∨ 7 < act) ∨ (act = 4 ∧ zix (z_N S 0) o = none)) := fun z => z.elim nh (fun z => z.elim ns (fun z => z.elim (fun z => z.elim n1 n2) (fun z => by rw [eo] at z; exact absurd z.2 (by simp))))
        have := k91 (some a35) (fun _ => by rw [← z, eu, zO_nI (by omega)]; rfl) hn
        exact this
    · have hn : ¬ (zix 4 h = none ∨ (za_t S k to = none ∧ za_p S k to = none) ∨ (act < 0 ∨ 7 < act) ∨ (act = 4 ∧ zix (z_N S 0) o = none)) := fun z => z.elim nh (fun z => z.elim ns (fun z => z.elim (fun z => z.elim n1 n2) (fun z => n4 z.1)))
      exact k91 l9 (fun e => absurd e n4) hn
  have k47 : ∀ l9, (act = 4 → l9 = zOT g (zix (z_N S 0) o)) → wb_X6_ask_47 Q σ x h act n (zOT g (za_t S k to)) (zOP g (za_p S k to)) l9 := by
    intro l9 hl9
    unfold wb_X6_ask_47
    refine c_house (fun e => ⟨fun _ => bad (Or.inl e), fun y => absurd rfl y⟩) (fun i hi e1 e2 => ⟨fun y => absurd y (by decide), fun _ => ?_⟩)
    have nh : ¬ zix 4 h = none := by rw [e2]; simp
    cases et : za_t S k to with
    | none =>
      cases ep : za_p S k to with
      | none => exact ⟨fun _ => ⟨fun _ => bad (Or.inr (Or.inl ⟨et, ep⟩)), fun a z => (by cases z)⟩, fun a z => (by cases z)⟩
      | some q =>
        have := k66 l9 hl9 nh (fun z => by rw [ep] at z; exact absurd z.2 (by simp))
        rw [et, ep] at this
        refine ⟨fun _ => ⟨fun z => (by cases z), fun a44 z => ?_⟩, fun a z => (by cases z)⟩
        rw [← z]
        exact this
    | some t =>
      have := k66 l9 hl9 nh (fun z => by rw [et] at z; exact absurd z.1 (by simp))
      rw [et] at this
      refine ⟨fun z => (by cases z), fun a41 z => ?_⟩
      rw [← z]
      exact this
  have k29 : wb_X6_ask_29 Q σ x h act n o (zOT g (za_t S k to)) (zOP g (za_p S k to)) := by
    unfold wb_X6_ask_29
    refine ⟨fun e4 => ?_, fun n4 => k47 none (fun e => absurd e n4)⟩
    refine c_thing hR b.1 (fun e => k47 none (fun _ => by rw [e]; rfl)) (fun u hu e1 e2 => k47 (some (gT g u)) (fun _ => by rw [e2]; rfl))
  have k13 : ∀ l7, l7 = zOT g (za_t S k to) → wb_X6_ask_13 Q σ x h k to act n o l7 := by
    intro l7 e7
    subst e7
    unfold wb_X6_ask_13
    refine ⟨fun k1 => ?_, fun n1 => ?_⟩
    · have ep : za_p S k to = zix (z_N S 1) to := by unfold za_p; rw [if_pos k1]
      refine c_promise hR b.2.1 (fun e => ?_) (fun q hq e1 e2 => ?_)
      · have := k29
        rw [ep, e] at this
        exact this
      · have := k29
        rw [ep, e2] at this
        exact this
    · have ep : za_p S k to = none := by unfold za_p; rw [if_neg n1]
      have := k29
      rw [ep] at this
      exact this
  unfold wp_X6_ask
  refine ⟨fun k0 => ?_, fun n0 => ?_⟩
  · have et : za_t S k to = zix (z_N S 0) to := by unfold za_t; rw [if_pos k0]
    exact c_thing hR b.1 (fun e => k13 none (by rw [et, e]; rfl)) (fun u hu e1 e2 => k13 (some (gT g u)) (by rw [et, e2]; rfl))
  · have et : za_t S k to = none := by unfold za_t; rw [if_neg n0]
    exact k13 none (by rw [et]; rfl)
theorem nw_N0 {S : zS} {a q u : Nat} : z_N (z_nwhen S a q u) 0 = z_N S 0 := rfl
theorem nw_N1 {S : zS} {a q u : Nat} : z_N (z_nwhen S a q u) 1 = z_N S 1 := rfl
theorem nw_N2 {S : zS} {a q u : Nat} : z_N (z_nwhen S a q u) 2 = z_N S 2 + 1 := rfl
theorem N_u {S : zS} {a b : Nat} : z_u (zs_N S a b) = z_u S := rfl
theorem N_r {S : zS} {a b : Nat} : z_r (zs_N S a b) = z_r S := rfl
theorem N_W {S : zS} {a b : Nat} : z_W (zs_N S a b) = z_W S := rfl
theorem N_H {S : zS} {a b : Nat} : z_H (zs_N S a b) = z_H S := rfl
theorem N_Q {S : zS} {a b : Nat} : z_Q (zs_N S a b) = z_Q S := rfl
theorem N_D {S : zS} {a b : Nat} : z_D (zs_N S a b) = z_D S := rfl
theorem nw_u {S : zS} {a q u : Nat} : z_u (z_nwhen S a q u) = z_u S := by unfold z_nwhen; rw [N_u, F_u, F_u, F_u, F_u]
theorem nw_r {S : zS} {a q u : Nat} : z_r (z_nwhen S a q u) = z_r S := by unfold z_nwhen; rw [N_r, F_r, F_r, F_r, F_r]
theorem nw_W {S : zS} {a q u : Nat} : z_W (z_nwhen S a q u) = z_W S := by unfold z_nwhen; rw [N_W, F_W, F_W, F_W, F_W]
theorem nw_H {S : zS} {a q u : Nat} : z_H (z_nwhen S a q u) = z_H S := by unfold z_nwhen; rw [N_H, F_H, F_H, F_H, F_H]
theorem nw_Q {S : zS} {a q u : Nat} : z_Q (z_nwhen S a q u) = z_Q S := by unfold z_nwhen; rw [N_Q, F_Q, F_Q, F_Q, F_Q]
theorem nw_D {S : zS} {a q u : Nat} : z_D (z_nwhen S a q u) = z_D S := by unfold z_nwhen; rw [N_D, F_D, F_D, F_D, F_D]
theorem ps_nwhen {S : zS} {a q u : Nat} : z_ps (z_nwhen S a q u) = z_ps S := by
  have hF : ∀ f j, j ≠ z_N S 2 → z_F (z_nwhen S a q u) f j = z_F S f j := by
    intro f j hfj
    rw [zF_nwhen, if_neg hfj]
  have e26 : z_F (z_nwhen S a q u) 26 (z_N S 2) = 0 := by rw [zF_nwhen]; simp
  unfold z_ps
  rw [nw_N2, List.range_succ, List.filter_append]
  have e3 : (List.range (z_N S 2)).filter (fun w => !(z_F (z_nwhen S a q u) 26 w == 0)) = (List.range (z_N S 2)).filter (fun w => !(z_F S 26 w == 0)) := by
    refine List.filter_congr (fun w hw => ?_)
    rw [hF _ _ (by have := List.mem_range.mp hw; omega)]
  rw [e3]
  simp [e26]
theorem c_newWhen {x : Nat} {σ : xS} {S : zS} {g : zG} {B : Nat → List Nat} {a q u : Nat} {Q : Int32 → xS → Prop} (hR : RC x σ S g B) (hJ : zJ S) (hN : z_N S 2 < 40) (ha : a < 4) (hq : q < z_N S 1) (hk : a = z_ak S q ∨ a = z_hm S q) (hu : u < z_N S 0) (hs : z_hs S u = a) (kk : ∀ σ2 g2 B2, RC x σ2 (z_when S a q u) g2 B2 → Q (nI (z_N S 2 + 1)) σ2) : xh_n σ < xh_m σ ∧ ∀ σ23, σ23 = xs_new σ 4 → (wp_X4_init σ23 (xh_n σ) (gM g q + 1) (nI a) (gT g u) (fun σ24 => xw6 σ24 x ∧ (vp_in (xh_I σ24 391 x) 40 ∧ xh_k σ24 (xh_n σ) = 5 ∧ ∀ σ27, σ27 = xs_q σ24 (x + 3) (xh_I σ24 391 x).toNatClampNeg (some (xh_n σ)) → (∀ σ28, σ28 = xs_I σ27 391 x ((xh_I σ27 391 x) + 1) → (xh_k σ28 (gM g q + 1) = 3 ∧ wp_X2_howIn σ28 (gM g q + 1) (nI a) (fun x30 => (x30 = 0 → wb_X6_when_119 Q σ28 x) ∧ (¬ x30 = 0 → wp_X6_postWhen σ28 x (xh_n σ) (fun σ33 => wb_X6_when_119 Q σ33 x)))))))) := by
  have hI := hJ.1
  have b := hI.1.1
  have hIn := I_nwhen hI hN ha hq hk hu hs
  have hc2 : xh_I σ 391 x = nI (z_N S 2) := hR.1.2.2.2.1
  obtain ⟨d1, d2, d3, d4, d5, d6, d7, d8, d9⟩ := hR.2.2.2.1
  have hps : z_ps S ≤ z_N S 2 := by
    unfold z_ps
    exact Nat.le_trans (List.length_filter_le _ _) (by rw [List.length_range]; exact Nat.le_refl _)
  have huse : z_used S + 1 ≤ 460 := by unfold z_used; omega
  refine ⟨by omega, fun σ1 e1 => ?_⟩
  obtain ⟨ag1, n1, kk1, i1', r1'⟩ := ag_new e1
  unfold wp_X4_init
  intro σ2 e2 σ3 e3 σ4 e4
  have K4 : xh_k σ4 = xh_k σ1 := by rw [e4, e3, e2]; rfl
  have N4 : xh_n σ4 = xh_n σ1 := by rw [e4, e3, e2]; rfl
  have M4 : xh_m σ4 = xh_m σ1 := by rw [e4, e3, e2]; rfl
  have L4 : xh_L σ4 = xh_L σ1 := by rw [e4, e3, e2]; rfl
  have Q4 : xh_q σ4 = xh_q σ1 := by rw [e4, e3, e2]; rfl
  have Z4 : xh_z σ4 = xh_z σ1 := by rw [e4, e3, e2]; rfl
  have I4 : ∀ f c, xh_I σ4 f c = if f = 257 ∧ c = xh_n σ then nI a else xh_I σ1 f c := fun f c => by rw [e4, show xh_I (xs_R σ3 258 (xh_n σ) (some (gT g u))) = xh_I σ3 from rfl, e3, xI2, e2]; rfl
  have R4 : ∀ f c, xh_R σ4 f c = if f = 258 ∧ c = xh_n σ then some (gT g u) else if f = 256 ∧ c = xh_n σ then some (gM g q + 1) else xh_R σ1 f c := fun f c => by rw [e4, xR2, e3, show xh_R (xs_I σ2 257 (xh_n σ) (nI a)) = xh_R σ2 from rfl, e2, xR2]
  have c4 : xh_I σ4 391 x = nI (z_N S 2) := by rw [I4, if_neg (by omega), ag1.2.2.2.1 _ _ (by omega)]; exact hc2
  rw [c4, cl40 (by omega)]
  refine ⟨xw6_ag hR.1.1 (n := xh_n σ) (by omega) (fun c hc => by rw [K4]; exact ag1.2.2.1 c hc) (fun f c hc => by rw [R4, if_neg (by omega), if_neg (by omega)]; exact ag1.2.2.2.2.1 f c hc) (fun c hc => by rw [Z4]; exact ag1.2.2.2.2.2.2.2 c hc), vpI (by omega), by rw [K4]; exact kk1, ?_⟩
  intro σ5 e5
  have c5 : xh_I σ5 391 x = nI (z_N S 2) := by rw [e5]; exact c4
  rw [c5, nI_1]
  intro σ6 e6
  have I6 : ∀ f c, xh_I σ6 f c = if f = 391 ∧ c = x then nI (z_N S 2 + 1) else xh_I σ4 f c := fun f c => by rw [e6, xI2, e5]; rfl
  have R6 : xh_R σ6 = xh_R σ4 := by rw [e6, e5]; rfl
  have K6 : xh_k σ6 = xh_k σ1 := by rw [e6, e5]; exact K4
  have N6 : xh_n σ6 = xh_n σ + 1 := by rw [e6, e5]; show xh_n σ4 = _; rw [N4, n1]
  have M6 : xh_m σ6 = xh_m σ := by rw [e6, e5]; show xh_m σ4 = _; rw [M4, ag1.2.1]
  have L6 : xh_L σ6 = xh_L σ1 := by rw [e6, e5]; exact L4
  have Z6 : xh_z σ6 = xh_z σ1 := by rw [e6, e5]; exact Z4
  have Q6 : ∀ c i, xh_q σ6 c i = if c = x + 3 ∧ i = z_N S 2 then some (xh_n σ) else xh_q σ1 c i := fun c i => by
    rw [e6, e5]
    show (if c = x + 3 ∧ i = z_N S 2 then some (xh_n σ) else xh_q σ4 c i) = _
    rw [Q4]
  have iold : ∀ f c, c < xh_n σ → ¬ (389 ≤ f ∧ f ≤ 391) → xh_I σ6 f c = xh_I σ f c := fun f c hc hf => by rw [I6, if_neg (by omega), I4, if_neg (by omega)]; exact ag1.2.2.2.1 f c hc
  have rold : ∀ f c, c < xh_n σ → xh_R σ6 f c = xh_R σ f c := fun f c hc => by rw [R6, R4, if_neg (by omega), if_neg (by omega)]; exact ag1.2.2.2.2.1 f c hc
  have kold : ∀ c, c < xh_n σ → xh_k σ6 c = xh_k σ c := fun c hc => by rw [K6]; exact ag1.2.2.1 c hc
  have hgW : ∀ w, w < z_N S 2 → va_up (gW g) (z_N S 2) (xh_n σ) w = gW g w := fun w hw => by unfold va_up; rw [if_neg (by omega)]
  have hgN : va_up (gW g) (z_N S 2) (xh_n σ) (z_N S 2) = xh_n σ := by unfold va_up; rw [if_pos rfl]
  have hF : ∀ f j, j ≠ z_N S 2 → z_F (z_nwhen S a q u) f j = z_F S f j := fun f j hj => by rw [zF_nwhen, if_neg hj]
  have hF2 : ∀ f, (f < 23 ∨ 26 < f) → ∀ j, z_F (z_nwhen S a q u) f j = z_F S f j := by
    intro f hf j
    rw [zF_nwhen]
    by_cases e : j = z_N S 2
    · rw [if_pos e]
      repeat rw [if_neg (by omega)]
    · rw [if_neg e]
  have RG : RC x σ6 (z_nwhen S a q u) (gT g, gM g, va_up (gW g) (z_N S 2) (xh_n σ)) B := by
    refine R_grow hR hI (by omega) kold iold rold (fun f c hc => by rw [L6]; exact ag1.2.2.2.2.2.1 f c hc) (fun c hc => by rw [Z6]; exact ag1.2.2.2.2.2.2.2 c hc) (fun c i hc _ _ q3 => by rw [Q6, if_neg q3]; exact ag1.2.2.2.2.2.2.1 c i hc) ⟨?_, ?_, ?_⟩ ⟨Nat.le_of_eq nw_N0.symm, Nat.le_of_eq nw_N1.symm, by rw [nw_N2]; omega⟩ (fun _ _ => rfl) (fun _ _ => rfl) hgW (fun k i hk _ => hF2 k (by omega) i) (fun k i hk _ => hF2 k (by omega) i) (fun k i _ hi => hF k i (by omega)) (fun i => hF2 36 (by omega) i) nw_u nw_r nw_W nw_H nw_Q nw_D (fun k i hck q1 q2 => ?_) (fun t q1 q2 => ?_) (fun p q1 q2 => ?_) (fun w q1 q2 => ?_) ⟨?_, ?_, fun w w2 hw hw2 e => ?_⟩ ?_
    · rw [nw_N0, I6, if_neg (by omega), I4, if_neg (by omega), ag1.2.2.2.1 _ _ (by omega)]; exact hR.1.2.1
    · rw [nw_N1, I6, if_neg (by omega), I4, if_neg (by omega), ag1.2.2.2.1 _ _ (by omega)]; exact hR.1.2.2.1
    · rw [nw_N2, I6, if_pos ⟨rfl, rfl⟩]
    · by_cases z1 : k = 24
      · subst z1
        have hi : i = z_N S 2 := by
          have q1' : z_N S 2 ≤ i := q1
          have q2' : i < z_N S 2 + 1 := q2
          omega
        subst hi
        have hka : ka x (gT g, gM g, va_up (gW g) (z_N S 2) (xh_n σ)) 24 (z_N S 2) = xh_n σ := hgN
        rw [hka, I6, I4, zF_nwhen]
        simp [kf]
      · exfalso
        have : kb (z_nwhen S a q u) k = kb S k := by
          unfold kb
          rw [nw_N0, nw_N1, if_neg z1, if_neg z1]
        omega
    · rw [nw_N0] at q2; omega
    · rw [nw_N1] at q2; omega
    · have hw : w = z_N S 2 := by rw [nw_N2] at q2; omega
      subst hw
      have hgg2 : gW (gT g, gM g, va_up (gW g) (z_N S 2) (xh_n σ)) (z_N S 2) = xh_n σ := hgN
      have e23 : z_F (z_nwhen S a q u) 23 (z_N S 2) = nI q := by rw [zF_nwhen]; simp
      have e25 : z_F (z_nwhen S a q u) 25 (z_N S 2) = nI u := by rw [zF_nwhen]; simp
      rw [hgg2, e23, e25, cl40 (by omega), cl40 (by omega)]
      refine ⟨⟨by rw [Q6, if_pos ⟨rfl, rfl⟩], ?_, ?_⟩, by rw [K6]; exact kk1, by omega⟩
      · rw [R6, R4]; simp; rfl
      · rw [R6, R4]; simp; rfl
    · rw [nw_N0]; exact d6
    · rw [nw_N1]; exact d7
    · rw [nw_N2] at hw hw2
      have e5 : va_up (gW g) (z_N S 2) (xh_n σ) w = va_up (gW g) (z_N S 2) (xh_n σ) w2 := e
      unfold va_up at e5
      by_cases z1 : w = z_N S 2
      · by_cases z2 : w2 = z_N S 2
        · omega
        · rw [if_pos z1, if_neg z2] at e5
          have := d3 w2 (by omega); omega
      · by_cases z2 : w2 = z_N S 2
        · rw [if_neg z1, if_pos z2] at e5
          have := d3 w (by omega); omega
        · rw [if_neg z1, if_neg z2] at e5
          exact d8 w w2 (by omega) (by omega) e5
    · rw [N6, M6]
      unfold z_used
      rw [ps_nwhen, nw_N0, nw_N1, nw_N2]
      unfold z_used at d9
      omega
  have hq2 : q < z_N (z_nwhen S a q u) 1 := by rw [nw_N1]; exact hq
  have hw2 : z_N S 2 < z_N (z_nwhen S a q u) 2 := by rw [nw_N2]; omega
  have sv := st_nwhen (S := S) (a := a) (q := q) (u := u) (q2 := q) (h := nI a)
  have eW : gW (gT g, gM g, va_up (gW g) (z_N S 2) (xh_n σ)) (z_N S 2) = xh_n σ := hgN
  have eM : gM (gT g, gM g, va_up (gW g) (z_N S 2) (xh_n σ)) q = gM g q := rfl
  generalize (gT g, gM g, va_up (gW g) (z_N S 2) (xh_n σ)) = g2 at RG eW eM
  have how := c_howIn (Q := fun x30 => (x30 = 0 → wb_X6_when_119 Q σ6 x) ∧ (¬ x30 = 0 → wp_X6_postWhen σ6 x (xh_n σ) (fun σ33 => wb_X6_when_119 Q σ33 x))) (h := nI a) RG hq2
  rw [eM] at how
  refine ⟨?_, how ?_⟩
  · have := (RG.2.2.2.1.2.1 q hq2).2.1
    rw [eM] at this
    exact this
  · rw [sv.1]
    have kk2 := kk
    unfold z_when at kk2
    refine ⟨fun z => ?_, fun z => ?_⟩
    · rw [if_pos z] at kk2
      unfold wb_X6_when_119
      rw [show xh_I σ6 391 x = nI (z_N S 2 + 1) from by rw [I6, if_pos ⟨rfl, rfl⟩]]
      exact kk2 σ6 g2 B RG
    · rw [if_neg z] at kk2
      have pw := c_postWhen (Q := fun σ33 => wb_X6_when_119 Q σ33 x) (p := q) (h := a) RG hIn hw2 (by rw [zF_nwhen]; simp) (by rw [zF_nwhen]; simp) hq2 (by rw [zF_nwhen]; simp) ha (by rw [sv.1]; exact z) (fun σ7 B7 R7 => ?_)
      · rw [eW] at pw
        exact pw
      · rw [sv.1, sv.2] at R7
        unfold wb_X6_when_119
        rw [R7.1.2.2.2.1, zFw_pw.1, nw_N2]
        exact kk2 σ7 g2 B7 R7
theorem c_whenOp {x : Nat} {σ : xS} {S : zS} {g : zG} {B : Nat → List Nat} {h p t : Int32} {Q : Int32 → xS → Prop} (hR : RC x σ S g B) (hJ : zJ S) (kk : ∀ σ2 g2 B2, RC x σ2 (zo_when S h p t).2 g2 B2 → Q (zo_when S h p t).1 σ2) : wp_X6_when σ x h p t Q := by
  have b := hJ.1.1.1
  unfold zo_when at kk
  have bad : (zix 4 h = none ∨ zix (z_N S 1) p = none ∨ zix (z_N S 0) t = none ∨ ¬ z_F S 1 t.toNatClampNeg = h) → wb_X6_when_40 Q σ x := by
    intro z; rw [if_pos z] at kk; exact kk σ g B hR
  unfold wp_X6_when
  refine c_promise hR b.2.1 (fun ep => ?_) (fun q hq e3 e4 => ?_)
  · refine c_thing hR b.1 (fun _ => ?_) (fun u _ _ _ => ?_)
    · exact c_house (fun e => ⟨fun _ => bad (Or.inl e), fun y => absurd rfl y⟩) (fun i hi e1 e2 => ⟨fun y => absurd y (by decide), fun _ => ⟨fun _ => bad (Or.inr (Or.inl ep)), fun a z => (by cases z)⟩⟩)
    · exact c_house (fun e => ⟨fun _ => bad (Or.inl e), fun y => absurd rfl y⟩) (fun i hi e1 e2 => ⟨fun y => absurd y (by decide), fun _ => ⟨fun _ => bad (Or.inr (Or.inl ep)), fun a z => (by cases z)⟩⟩)
  · refine c_thing hR b.1 (fun et => ?_) (fun u hu e5 e6 => ?_)
    · exact c_house (fun e => ⟨fun _ => bad (Or.inl e), fun y => absurd rfl y⟩) (fun i hi e1 e2 => ⟨fun y => absurd y (by decide), fun _ => ⟨fun z => (by cases z), fun a z => ⟨fun _ => bad (Or.inr (Or.inr (Or.inl et))), fun a y => (by cases y)⟩⟩⟩)
    · refine c_house (fun e => ⟨fun _ => bad (Or.inl e), fun y => absurd rfl y⟩) (fun a ha e1 e2 => ⟨fun y => absurd y (by decide), fun _ => ⟨fun z => (by cases z), fun a9 z => ⟨fun y => (by cases y), fun a12 y => ?_⟩⟩⟩)
      cases z
      cases y
      subst e1; subst e3; subst e5
      have cu : (nI u).toNatClampNeg = u := cl40 (by omega)
      have cq : (nI q).toNatClampNeg = q := cl40 (by omega)
      have ca : (nI a).toNatClampNeg = a := cl40 (by omega)
      rw [cu, cq, ca] at kk
      obtain ⟨t1, t2, t3, t4, t5⟩ := k_of hR hu
      rw [t4]
      refine ⟨t1, fun eh => ⟨(hR.2.2.2.1.2.1 q hq).2.1, ?_⟩, fun nh => bad (Or.inr (Or.inr (Or.inr (by rw [cu]; exact nh))))⟩
      rw [if_neg (fun z => z.elim (fun z => by rw [e2] at z; cases z) (fun z => z.elim (fun z => by rw [e4] at z; cases z) (fun z => z.elim (fun z => by rw [e6] at z; cases z) (fun z => z eh))))] at kk
      refine c_known hR hq (fun z => ⟨fun _ => ?_, fun y => absurd rfl y⟩) (fun hkn => ⟨fun y => absurd y (by decide), fun _ => ?_⟩)
      · rw [if_pos z] at kk; exact kk σ g B hR
      · rw [if_neg (fun z => z hkn)] at kk
        rw [hR.1.2.2.2.1, show (40 : Int32) = nI 40 from rfl, nlt (by omega) (by omega)]
        refine ⟨fun hlt => ?_, fun hge => ?_⟩
        · rw [if_neg (by omega)] at kk
          have hs : z_hs S u = a := by unfold z_hs; rw [eh, ca]
          exact c_newWhen hR hJ hlt ha hq (kn_of hJ.1 hq ha hkn) hu hs kk
        · rw [if_pos (by omega)] at kk
          exact kk σ g B hR
