/-! when, deliver, flow, cut, again -/
def z_nwhen (S : zS) (a q u : Nat) : zS := zs_N (zs_F (zs_F (zs_F (zs_F S 23 (z_N S 2) (nI q)) 24 (z_N S 2) (nI a)) 25 (z_N S 2) (nI u)) 26 (z_N S 2) 0) 2 (z_N S 2 + 1)
def z_st (S : zS) (q : Nat) (h : Int32) : Int32 := if z_F S 10 q = h then z_F S 11 q else z_F S 13 q
def z_vl (S : zS) (q : Nat) (h : Int32) : Int32 := if z_F S 10 q = h then z_F S 12 q else z_F S 14 q
def z_when (S : zS) (a q u : Nat) : zS := if z_st S q (nI a) = 0 then z_nwhen S a q u else z_pw (z_nwhen S a q u) (z_N S 2) (z_st S q (nI a)) (z_vl S q (nI a))
def zo_when (S : zS) (h p t : Int32) : Int32 × zS :=
  if zix 4 h = none ∨ zix (z_N S 1) p = none ∨ zix (z_N S 0) t = none ∨ ¬ z_F S 1 t.toNatClampNeg = h then (-1, S)
  else if ¬ (z_F S 9 p.toNatClampNeg = h ∨ z_F S 10 p.toNatClampNeg = h) then (-2, S)
  else if z_N S 2 = 40 then (-3, S)
  else (nI (z_N S 2 + 1), z_when S h.toNatClampNeg p.toNatClampNeg t.toNatClampNeg)
theorem zF_nwhen {S : zS} {a q u : Nat} {f j : Nat} : z_F (z_nwhen S a q u) f j = if j = z_N S 2 then (if f = 26 then 0 else if f = 25 then nI u else if f = 24 then nI a else if f = 23 then nI q else z_F S f j) else z_F S f j := by
  unfold z_nwhen
  simp only [zF_eq, zF_N]
  by_cases e : j = z_N S 2
  · subst e
    simp only [and_true, if_true]
  · simp only [e, and_false, if_false]
theorem I_nwhen {S : zS} {a q u : Nat} (hI : zI S) (hN : z_N S 2 < 40) (ha : a < 4) (hq : q < z_N S 1) (hk : a = z_ak S q ∨ a = z_hm S q) (hu : u < z_N S 0) (hs : z_hs S u = a) : zI (z_nwhen S a q u) := by
  obtain ⟨⟨v1, v2, v3, v4, v5, v6, v7⟩, ha1, hb, hc, hd, he, hg1, hh2, hi, hj, hkk, hm⟩ := hI
  have hF : ∀ f j, j ≠ z_N S 2 → z_F (z_nwhen S a q u) f j = z_F S f j := by
    intro f j hfj
    rw [zF_nwhen, if_neg hfj]
  have hF2 : ∀ f, (f < 23 ∨ 26 < f) → z_F (z_nwhen S a q u) f = z_F S f := by
    intro f hf
    funext j
    rw [zF_nwhen]
    by_cases e : j = z_N S 2
    · rw [if_pos e]
      repeat rw [if_neg (by omega)]
    · rw [if_neg e]
  have hN2 : z_N (z_nwhen S a q u) 2 = z_N S 2 + 1 := rfl
  have e23 : z_F (z_nwhen S a q u) 23 (z_N S 2) = nI q := by rw [zF_nwhen]; simp
  have e24 : z_F (z_nwhen S a q u) 24 (z_N S 2) = nI a := by rw [zF_nwhen]; simp
  have e25 : z_F (z_nwhen S a q u) 25 (z_N S 2) = nI u := by rw [zF_nwhen]; simp
  have e26 : z_F (z_nwhen S a q u) 26 (z_N S 2) = 0 := by rw [zF_nwhen]; simp
  have hak : ∀ p, z_ak (z_nwhen S a q u) p = z_ak S p := fun p => by unfold z_ak; rw [hF2 9 (by omega)]
  have hhm : ∀ p, z_hm (z_nwhen S a q u) p = z_hm S p := fun p => by unfold z_hm; rw [hF2 10 (by omega)]
  have hhs : ∀ t, z_hs (z_nwhen S a q u) t = z_hs S t := fun t => by unfold z_hs; rw [hF2 1 (by omega)]
  refine ⟨⟨⟨v1.1, v1.2.1, by rw [hN2]; omega⟩, fun t ht => ?_, fun p hp => ?_, fun w hw => ?_, ?_, ?_, ?_⟩, fun w l hl => ⟨(ha1 w l hl).1, ?_⟩, hb, ⟨fun d hd1 => ?_, hc.2⟩, fun t p hp => ?_, he, fun t p hp => ?_, hh2, fun w p h2 hw hp hp1 hh3 hh4 hst => ?_, ?_, fun p hp => ?_, fun p hp => ?_⟩
  · rw [hhs, hF2 1 (by omega), hF2 2 (by omega), hF2 4 (by omega)]
    exact v2 t ht
  · rw [hak, hhm, hF2 9 (by omega), hF2 10 (by omega), hF2 17 (by omega), hF2 19 (by omega)]
    exact v3 p hp
  · by_cases e : w = z_N S 2
    · subst e
      refine ⟨q, a, u, hq, e23, ha, e24, ?_, hu, e25, by rw [hhs]; exact hs⟩
      rw [hak, hhm]; exact hk
    · obtain ⟨p, h2, t, q1, q2, q3, q4, q5, q6, q7, q8⟩ := v4 w (by rw [hN2] at hw; omega)
      refine ⟨p, h2, t, q1, by rw [hF _ _ e]; exact q2, q3, by rw [hF _ _ e]; exact q4, ?_, q6, by rw [hF _ _ e]; exact q7, by rw [hhs]; exact q8⟩
      rw [hak, hhm]; exact q5
  · rw [hF2 36 (by omega)]; exact v5
  · rw [hF2 36 (by omega)]; exact v6
  · rw [hF2 36 (by omega)]; exact v7
  · have := (ha1 w l hl).2
    unfold zLok at this ⊢
    rw [hF2 16 (by omega), hF2 11 (by omega), hF2 13 (by omega), hF2 20 (by omega), hhm, hak]
    exact this
  · have := hc.1 d hd1
    rw [hF2 16 (by omega), hF2 11 (by omega)]
    exact this
  · have := hd t p hp
    rw [hF2 16 (by omega), hF2 11 (by omega), hF2 2 (by omega)]
    exact this
  · have := hg1 t p hp
    rw [hF2 16 (by omega), hF2 11 (by omega)]
    exact this
  · by_cases e : w = z_N S 2
    · rw [e]; exact e26
    · rw [hF _ _ e] at hp hh3 ⊢
      rw [hhm, hF2 11 (by omega), hF2 13 (by omega)] at hst
      exact hi w p h2 (by rw [hN2] at hw; omega) hp hp1 hh3 hh4 hst
  · have e1 : z_c2 (z_nwhen S a q u) = z_c2 S := rfl
    have e2 : z_ps (z_nwhen S a q u) = z_ps S := by
      unfold z_ps
      rw [hN2, List.range_succ, List.filter_append]
      have e3 : (List.range (z_N S 2)).filter (fun w => !(z_F (z_nwhen S a q u) 26 w == 0)) = (List.range (z_N S 2)).filter (fun w => !(z_F S 26 w == 0)) := by
        refine List.filter_congr (fun w hw => ?_)
        rw [hF _ _ (by have := List.mem_range.mp hw; omega)]
      rw [e3]
      simp [e26]
    rw [e1, e2]; exact hj
  · rw [hF2 20 (by omega), hF2 16 (by omega)]
    exact hkk p hp
  · rw [hF2 11 (by omega), hF2 12 (by omega), hF2 13 (by omega)]
    exact hm p hp
theorem kn_of {S : zS} {q a : Nat} (hI : zI S) (hq : q < z_N S 1) (ha : a < 4) (h : z_F S 9 q = nI a ∨ z_F S 10 q = nI a) : a = z_ak S q ∨ a = z_hm S q := by
  obtain ⟨⟨e1, l1⟩, ⟨e2, l2⟩, -⟩ := hI.1.2.2.1 q hq
  rcases h with h | h
  · rw [e1, nI_eq (by omega) (by omega)] at h; exact Or.inl h.symm
  · rw [e2, nI_eq (by omega) (by omega)] at h; exact Or.inr h.symm
theorem st_ne {S : zS} {q a : Nat} (hI : zI S) (hq : q < z_N S 1) (ha : a < 4) (h : ¬ z_st S q (nI a) = 0) : ¬ (if a = z_hm S q then z_F S 11 q = 0 else z_F S 13 q = 0) := by
  obtain ⟨-, ⟨e2, l2⟩, -⟩ := hI.1.2.2.1 q hq
  unfold z_st at h
  by_cases e : a = z_hm S q
  · rw [if_pos (by rw [e2, e])] at h; rw [if_pos e]; exact h
  · rw [if_neg (by rw [e2, nI_eq (by omega) (by omega)]; exact fun z => e z.symm)] at h; rw [if_neg e]; exact h
theorem I_when {S : zS} {a q u : Nat} (hI : zI S) (hN : z_N S 2 < 40) (ha : a < 4) (hq : q < z_N S 1) (hk : a = z_ak S q ∨ a = z_hm S q) (hu : u < z_N S 0) (hs : z_hs S u = a) : zI (z_when S a q u) := by
  have h1 := I_nwhen hI hN ha hq hk hu hs
  unfold z_when
  split
  · exact h1
  · rename_i hst
    refine I_pw h1 (show z_N S 2 < z_N S 2 + 1 by omega) (by rw [zF_nwhen]; simp) (p := q) (h := a) (by rw [zF_nwhen]; simp) hq (by rw [zF_nwhen]; simp) ha ?_
    have := st_ne hI hq ha hst
    have e1 : z_hm (z_nwhen S a q u) q = z_hm S q := by
      unfold z_hm; rw [zF_nwhen]; split <;> simp
    have e11 : z_F (z_nwhen S a q u) 11 q = z_F S 11 q := by rw [zF_nwhen]; split <;> simp
    have e13 : z_F (z_nwhen S a q u) 13 q = z_F S 13 q := by rw [zF_nwhen]; split <;> simp
    rw [e1, e11, e13]; exact this
theorem fw_nwhen {S : zS} {a q u : Nat} : z_H (z_nwhen S a q u) = z_H S ∧ z_D (z_nwhen S a q u) = z_D S ∧ z_N (z_nwhen S a q u) 0 = z_N S 0 ∧ z_N (z_nwhen S a q u) 9 = z_N S 9 ∧ z_F (z_nwhen S a q u) 8 = z_F S 8 := by
  refine ⟨rfl, rfl, rfl, rfl, ?_⟩
  funext j
  rw [zF_nwhen]
  split <;> simp
theorem J_when1 {S : zS} {a q u : Nat} (hJ : zJ S) (hN : z_N S 2 < 40) (ha : a < 4) (hq : q < z_N S 1) (hk : a = z_ak S q ∨ a = z_hm S q) (hu : u < z_N S 0) (hs : z_hs S u = a) : zJN S (z_when S a q u) := by
  have h1 := I_when hJ.1 hN ha hq hk hu hs
  obtain ⟨f1, f2, f3, f4, f5⟩ := fw_nwhen (S := S) (a := a) (q := q) (u := u)
  have hK : zK (z_nwhen S a q u) := hJ.2.2.kh ⟨f1, f5, f3⟩
  have key : zFw (z_nwhen S a q u) (z_when S a q u) := by
    unfold z_when
    split
    · exact zFw.rf
    · exact zFw_pw
  refine ⟨⟨h1, ?_, hK.kh key.kh⟩, ?_⟩
  · rw [key.2.2.2.2.1, f2]; exact hJ.2.1
  · rw [key.1, f4]
theorem J_when {S : zS} {h p t : Int32} (hJ : zJ S) : zJN S (zo_when S h p t).2 := by
  have b := hJ.1.1.1
  unfold zo_when
  split
  · exact zJN.rf hJ
  · rename_i hn
    split
    · exact zJN.rf hJ
    · rename_i hk
      split
      · exact zJN.rf hJ
      · rename_i h40
        have : ∃ a, a < 4 ∧ h = nI a := ix_cases (N := 4) (v := h) (fun e => absurd (Or.inl e) hn) (fun t a b _ => ⟨t, a, b⟩)
        obtain ⟨a, ha, rfl⟩ := this
        have : ∃ q, q < z_N S 1 ∧ p = nI q := ix_cases (N := z_N S 1) (v := p) (fun e => absurd (Or.inr (Or.inl e)) hn) (fun t a b _ => ⟨t, a, b⟩)
        obtain ⟨q, hq, rfl⟩ := this
        have : ∃ u, u < z_N S 0 ∧ t = nI u := ix_cases (N := z_N S 0) (v := t) (fun e => absurd (Or.inr (Or.inr (Or.inl e))) hn) (fun t a b _ => ⟨t, a, b⟩)
        obtain ⟨u, hu, rfl⟩ := this
        have hs : z_F S 1 (nI u).toNatClampNeg = nI a := Classical.byContradiction (fun z => hn (Or.inr (Or.inr (Or.inr z))))
        have hk2 : z_F S 9 (nI q).toNatClampNeg = nI a ∨ z_F S 10 (nI q).toNatClampNeg = nI a := Classical.byContradiction hk
        rw [cl40 (by omega)] at hs hk2
        show zJN S (z_when S (nI a).toNatClampNeg (nI q).toNatClampNeg (nI u).toNatClampNeg)
        rw [cl40 (by omega), cl40 (by omega), cl40 (by omega)]
        refine J_when1 hJ (by omega) ha hq (kn_of hJ.1 hq ha hk2) hu ?_
        unfold z_hs
        rw [hs, cl40 (by omega)]
theorem m_N2 {m : Nat} {τ τ2 : xS} {S : zS} {k0 c n : Nat} (h : zRM m τ S k0 c) (e : τ2 = xs_I τ 473 m (nI n)) : zRM m τ2 (zs_N S 2 n) k0 c := by
  obtain ⟨⟨d1, d2, d3, d4, d5, d6, d7⟩, ⟨fl, hl⟩, hkk, hq⟩ := h
  obtain ⟨A, L, W, I⟩ := st_I e
  have hI2 : ∀ g, g ≠ 473 → xh_I τ2 g m = xh_I τ g m := fun g hg => by rw [I, if_neg hg]
  exact ⟨⟨⟨W d1.1, by rw [hI2 _ (by omega)]; exact d1.2⟩, fun k2 i hk2 => by rw [A]; exact d2 k2 i hk2, by rw [hI2 _ (by omega)]; exact d3, by rw [hI2 _ (by omega)]; exact d4, by rw [I, if_pos rfl]; rfl, by rw [hI2 _ (by omega)]; exact d6, by rw [L]; exact d7⟩, ⟨fl, zMl_congr hl (fun _ _ _ _ => by rw [A]) (hI2 _ (by omega)) rfl⟩, zMk_congr hkk (fun _ => by rw [A]) (fun _ => by rw [A]) (hI2 _ (by omega)) rfl rfl rfl (fun _ => rfl), zMq_congr hq (fun _ _ _ _ => by rw [A]) (hI2 _ (by omega)) rfl⟩
theorem m_stIn {m : Nat} {τ : xS} {S : zS} {k0 c q : Nat} {h : Int32} {Q : Int32 → Prop} (hR : zRM m τ S k0 c) (hq : q < 100) (k : Q (z_st S q h)) : wp_X7_stateIn τ m (nI q) h Q := by
  have hv : vp_in (nI q) 100 := vpI (by omega)
  unfold wp_X7_stateIn
  rw [cl40 (by omega), rdF hR (k := 10), rdF hR (k := 11), rdF hR (k := 13)]
  unfold z_st at k
  refine ⟨hv, fun e => ⟨hv, ?_⟩, fun e => ⟨hv, ?_⟩⟩
  · rw [if_pos e] at k; exact k
  · rw [if_neg e] at k; exact k
theorem m_vlIn {m : Nat} {τ : xS} {S : zS} {k0 c q : Nat} {h : Int32} {Q : Int32 → Prop} (hR : zRM m τ S k0 c) (hq : q < 100) (k : Q (z_vl S q h)) : wp_X7_valueIn τ m (nI q) h Q := by
  have hv : vp_in (nI q) 100 := vpI (by omega)
  unfold wp_X7_valueIn
  rw [cl40 (by omega), rdF hR (k := 10), rdF hR (k := 12), rdF hR (k := 14)]
  unfold z_vl at k
  refine ⟨hv, fun e => ⟨hv, ?_⟩, fun e => ⟨hv, ?_⟩⟩
  · rw [if_pos e] at k; exact k
  · rw [if_neg e] at k; exact k
theorem st_nwhen {S : zS} {a q u q2 : Nat} {h : Int32} : z_st (z_nwhen S a q u) q2 h = z_st S q2 h ∧ z_vl (z_nwhen S a q u) q2 h = z_vl S q2 h := by
  have e : ∀ f, f < 23 → z_F (z_nwhen S a q u) f q2 = z_F S f q2 := fun f hf => by
    rw [zF_nwhen]
    split
    · repeat rw [if_neg (by omega)]
    · rfl
  unfold z_st z_vl
  rw [e 10 (by omega), e 11 (by omega), e 13 (by omega), e 12 (by omega), e 14 (by omega)]
  exact ⟨rfl, rfl⟩
theorem m_whenOp {m : Nat} {τ : xS} {S : zS} {c : Nat} {h p t : Int32} {Q : Int32 → xS → Prop} (hR : zRM m τ S 0 c) (hJ : zJ S) (kk : ∀ τ2, zRM m τ2 (zo_when S h p t).2 0 c → Q (zo_when S h p t).1 τ2) : wp_X7_when τ m h p t Q := by
  have b := hJ.1.1.1
  unfold zo_when at kk
  have bad : (zix 4 h = none ∨ zix (z_N S 1) p = none ∨ zix (z_N S 0) t = none ∨ ¬ z_F S 1 t.toNatClampNeg = h) → wb_X7_when_35 Q τ m := by
    intro z
    rw [if_pos z] at kk
    exact kk τ hR
  unfold wp_X7_when
  refine m_house (fun e => ⟨fun _ => bad (Or.inl e), fun y => absurd rfl y⟩) (fun a ha e1 e2 => ⟨fun y => absurd y (by decide), fun _ => ?_⟩)
  refine m_isPromise hR (by omega) (fun e => ⟨fun _ => bad (Or.inr (Or.inl e)), fun y => absurd rfl y⟩) (fun q hq e3 e4 => ⟨fun y => absurd y (by decide), fun _ => ?_⟩)
  refine m_isThing hR (by omega) (fun e => ⟨fun _ => bad (Or.inr (Or.inr (Or.inl e))), fun y => absurd rfl y⟩) (fun u hu e5 e6 => ⟨fun y => absurd y (by decide), fun _ => ?_⟩)
  subst e1; subst e3; subst e5
  have cu : (nI u).toNatClampNeg = u := cl40 (by omega)
  have cq : (nI q).toNatClampNeg = q := cl40 (by omega)
  have ca : (nI a).toNatClampNeg = a := cl40 (by omega)
  rw [cu, cq, ca] at kk
  rw [cu, rdF hR (k := 1)]
  refine ⟨vpI (by omega), fun eh => ?_, fun nh => bad (Or.inr (Or.inr (Or.inr (by rw [cu]; exact nh))))⟩
  rw [if_neg (fun z => z.elim (fun z => by rw [e2] at z; cases z) (fun z => z.elim (fun z => by rw [e4] at z; cases z) (fun z => z.elim (fun z => by rw [e6] at z; cases z) (fun z => z eh))))] at kk
  refine m_isOf hR (by omega) (fun z => ⟨fun _ => ?_, fun y => absurd rfl y⟩) (fun hkn => ⟨fun y => absurd y (by decide), fun _ => ?_⟩)
  · rw [if_pos z] at kk; exact kk τ hR
  · rw [if_neg (fun z => z hkn)] at kk
    have hN : xh_I τ 473 m = nI (z_N S 2) := hR.1.2.2.2.2.1
    rw [hN, show (40 : Int32) = nI 40 from rfl, nI_eq (by omega) (by omega)]
    refine ⟨fun z => ?_, fun n40 => ?_⟩
    · rw [if_pos z] at kk; exact kk τ hR
    · rw [if_neg n40] at kk
      have hv : vp_in (nI (z_N S 2)) 40 := vpI (by omega)
      have cw : (nI (z_N S 2)).toNatClampNeg = z_N S 2 := cl40 (by omega)
      rw [cw]
      refine ⟨hv, fun τ1 s1 => ?_⟩
      have R1 := m_F2 hR s1
      have I1 := (st_a s1).1
      rw [I1, hN, cw]
      refine ⟨hv, fun τ2 s2 => ?_⟩
      have R2 := m_F2 R1 s2
      have I2 := (st_a s2).1
      rw [I2, I1, hN, cw]
      refine ⟨hv, fun τ3 s3 => ?_⟩
      have R3 := m_F2 R2 s3
      have I3 := (st_a s3).1
      rw [I3, I2, I1, hN, cw]
      refine ⟨hv, fun τ4 s4 => ?_⟩
      have R4 := m_F2 R3 s4
      have I4 := (st_a s4).1
      rw [I4, I3, I2, I1, hN, nI_1]
      intro τ5 s5
      have R5 : zRM m τ5 (z_nwhen S a q u) 0 c := m_N2 R4 s5
      have h5 : xh_I τ5 473 m = nI (z_N S 2 + 1) := R5.1.2.2.2.2.1
      have hs : z_hs S u = a := by unfold z_hs; rw [eh, ca]
      have hIn := I_nwhen hJ.1 (by omega) ha hq (kn_of hJ.1 hq ha hkn) hu hs
      have sv := st_nwhen (S := S) (a := a) (q := q) (u := u) (q2 := q) (h := nI a)
      refine m_stIn R5 (by omega) ?_
      rw [sv.1]
      have kk2 : ∀ τ2, zRM m τ2 (z_when S a q u) 0 c → Q (nI (z_N S 2 + 1)) τ2 := kk
      unfold z_when at kk2
      refine ⟨fun z => ?_, fun z => ?_⟩
      · rw [if_pos z] at kk2
        unfold wb_X7_when_142
        rw [h5]
        exact kk2 τ5 R5
      · rw [if_neg z] at kk2
        refine m_stIn R5 (by omega) ?_
        refine m_vlIn R5 (by omega) ?_
        rw [sv.1, sv.2, h5, nI_pred1 (by omega), Nat.add_sub_cancel]
        refine m_pw R5 hIn.1 (by have := zI_cnt hIn; omega) (show z_N S 2 < z_N S 2 + 1 by omega) (fun τ6 R6 => ?_)
        unfold wb_X7_when_142
        have h6 : xh_I τ6 473 m = nI (z_N S 2 + 1) := by
          rw [show xh_I τ6 473 m = nI _ from R6.1.2.2.2.2.1, zFw_pw.1]; rfl
        rw [h6]
        exact kk2 τ6 R6
-- deliver
def zo_deliver (S : zS) (a b : Int32) : Int32 × zS :=
  if zix 4 a = none ∨ zix 4 b = none then (-1, S)
  else match z_W S (4 * a.toNatClampNeg + b.toNatClampNeg) with
    | [] => (-9, S)
    | l :: ls => (z_lk l, z_dlv S (4 * a.toNatClampNeg + b.toNatClampNeg) l ls)
theorem J_dlv {S : zS} {w : Nat} {l : zL} {ls : List zL} (hJ : zJ S) (e : z_W S w = l :: ls) : zJN S (z_dlv S w l ls) := by
  obtain ⟨g1, g2, g3⟩ := I_dlv hJ.1 e
  exact ⟨⟨g1, g2, K_dlv hJ.1 e hJ.2.2⟩, g3.2.1⟩
theorem J_deliver {S : zS} {a b : Int32} (hJ : zJ S) : zJN S (zo_deliver S a b).2 := by
  unfold zo_deliver
  split
  · exact zJN.rf hJ
  · split
    · exact zJN.rf hJ
    · rename_i e
      exact J_dlv hJ e
theorem m_deliverOp {m : Nat} {τ : xS} {S : zS} {c : Nat} {a b : Int32} {Q : Int32 → xS → Prop} (hc : c + 1 < 2 ^ 31) (hR : zRM m τ S 0 c) (hJ : zJ S) (kk : ∀ τ2 c2, c ≤ c2 → c2 ≤ c + 1 → zRM m τ2 (zo_deliver S a b).2 0 c2 → Q (zo_deliver S a b).1 τ2) : wp_X7_deliver τ m a b Q := by
  unfold zo_deliver at kk
  unfold wp_X7_deliver
  refine m_houses (fun e => ⟨fun _ => ?_, fun y => absurd rfl y⟩) (fun i j hi hj e1 e2 e3 e4 => ⟨fun y => absurd y (by decide), fun _ => ?_⟩)
  · rw [if_pos e] at kk; exact kk τ c (by omega) (by omega) hR
  · rw [if_neg (fun z => z.elim (fun z => by rw [e3] at z; cases z) (fun z => by rw [e4] at z; cases z))] at kk
    subst e1; subst e2
    rw [cl40 (by omega), cl40 (by omega)] at kk
    refine m_firstL hR hJ.1 hi hj (fun e => ⟨fun _ => ?_, fun z => absurd (Int32.le_refl _) z⟩) (fun l ls k hlt hA => ⟨fun z => absurd z hlt, fun _ => ?_⟩)
    · rw [e] at kk; exact kk τ c (by omega) (by omega) hR
    · rw [hA.1] at kk
      exact m_delivers hc hR hJ.1 hA (fun τ2 c2 h1 h2 R2 => kk τ2 c2 h1 h2 R2)
def zo_flow (S : zS) (n : Int32) : Int32 × zS := if n < 1 ∨ 100 < n then (-1, S) else (nI (z_flow n.toNatClampNeg S).1, (z_flow n.toNatClampNeg S).2)
theorem J_flow {S : zS} {n : Int32} (hJ : zJ S) : zJN S (zo_flow S n).2 := by
  unfold zo_flow
  split
  · exact zJN.rf hJ
  · obtain ⟨g1, g2, g3, -⟩ := I_flow n.toNatClampNeg S hJ.1 hJ.2.1
    exact ⟨⟨g1, g2, K_flow _ _ hJ.1 hJ.2.2⟩, g3⟩
theorem i_1_100 {n : Int32} (h : ¬ (n < 1 ∨ 100 < n)) : ∃ k : Nat, 1 ≤ k ∧ k ≤ 100 ∧ n = nI k := by
  have h1 : ¬ n < 1 := fun z => h (Or.inl z)
  have h2 : ¬ 100 < n := fun z => h (Or.inr z)
  rw [Int32.lt_iff_toInt_lt] at h1 h2
  have e0 : (1 : Int32).toInt = 1 := rfl
  have e2 : (100 : Int32).toInt = 100 := rfl
  rw [e0] at h1; rw [e2] at h2
  refine ⟨n.toInt.toNat, by omega, by omega, ?_⟩
  apply Int32.toInt_inj.mp
  rw [nI_toInt (by omega)]
  omega
theorem m_flowOp {m : Nat} {τ : xS} {S : zS} {c : Nat} {n : Int32} {Q : Int32 → xS → Prop} (hc : c + 100 < 2 ^ 31) (hR : zRM m τ S 0 c) (hJ : zJ S) (kk : ∀ τ2 c2, c ≤ c2 → c2 ≤ c + 100 → zRM m τ2 (zo_flow S n).2 0 c2 → Q (zo_flow S n).1 τ2) : wp_X7_flow τ m n Q := by
  unfold zo_flow at kk
  unfold wp_X7_flow
  refine m_in (fun e => ⟨fun _ => ?_, fun y => absurd rfl y⟩) (fun e => ⟨fun y => absurd y (by decide), fun _ => ?_⟩)
  · rw [if_pos e] at kk; exact kk τ c (by omega) (by omega) hR
  · rw [if_neg e] at kk
    obtain ⟨k, h1, h2, rfl⟩ := i_1_100 e
    rw [cl40 (by omega)] at kk
    refine ⟨k + 1, ?_⟩
    have := m_flow (m := m) (Q := Q) h2 k 0 τ S c (by omega) (by omega) hR hJ.1 hJ.2.1 (fun τ2 c2 h3 h4 R2 => by
      rw [Nat.zero_add]
      exact kk τ2 c2 h3 (by omega) R2)
    rw [nI_0] at this
    exact this
-- cut, again
def z_cut (S : zS) (i j : Nat) : zS := zs_F (zs_F S 36 (4 * i + j) 1) 36 (4 * j + i) 1
def z_lo (i j : Nat) : Nat := if j ≤ i then j else i
def z_hi (i j : Nat) : Nat := if j ≤ i then i else j
def z_cuts (S : zS) (i j : Nat) : zS := z_lsts (z_W S (4 * z_hi i j + z_lo i j)).length (z_lsts (z_W S (4 * z_lo i j + z_hi i j)).length (z_cut S i j) (4 * z_lo i j + z_hi i j)) (4 * z_hi i j + z_lo i j)
def zo_cut (S : zS) (a b : Int32) : Int32 × zS :=
  if zix 4 a = none ∨ zix 4 b = none ∨ a = b then (-1, S)
  else if ¬ z_F S 36 (4 * a.toNatClampNeg + b.toNatClampNeg) = 0 then (-2, S)
  else (nI ((z_W S (4 * z_lo a.toNatClampNeg b.toNatClampNeg + z_hi a.toNatClampNeg b.toNatClampNeg)).length + (z_W S (4 * z_hi a.toNatClampNeg b.toNatClampNeg + z_lo a.toNatClampNeg b.toNatClampNeg)).length), z_cuts S a.toNatClampNeg b.toNatClampNeg)
theorem F36_set {S : zS} {i j w : Nat} {v : Int32} : z_F (zs_F (zs_F S 36 (4 * i + j) v) 36 (4 * j + i) v) 36 w = if w = 4 * i + j ∨ w = 4 * j + i then v else z_F S 36 w := by
  rw [zF_eq, zF_eq]
  by_cases e1 : w = 4 * j + i
  · simp [e1]
  · by_cases e2 : w = 4 * i + j
    · simp [e2]
    · simp [e1, e2]
theorem I_36 {S : zS} {i j : Nat} {v : Int32} (hI : zI S) (hi : i < 4) (hj : j < 4) (hne : ¬ i = j) (hv : v = 0 ∨ v = 1) : zI (zs_F (zs_F S 36 (4 * i + j) v) 36 (4 * j + i) v) := by
  obtain ⟨⟨v1, v2, v3, v4, v5, v6, v7⟩, hr⟩ := hI
  refine ⟨⟨v1, v2, v3, v4, fun h hh => ?_, fun a b ha hb => ?_, fun w => ?_⟩, hr⟩
  · rw [F36_set, if_neg (by omega)]; exact v5 h hh
  · rw [F36_set, F36_set]
    by_cases e : 4 * a + b = 4 * i + j ∨ 4 * a + b = 4 * j + i
    · rw [if_pos e, if_pos (by omega)]
    · rw [if_neg e, if_neg (by omega)]; exact v6 a b ha hb
  · rw [F36_set]
    split
    · exact hv
    · exact v7 w
theorem lohi {i j : Nat} (h : ¬ i = j) (hi : i < 4) (hj : j < 4) : z_lo i j < z_hi i j ∧ z_hi i j < 4 ∧ ((z_lo i j = i ∧ z_hi i j = j) ∨ (z_lo i j = j ∧ z_hi i j = i)) := by
  unfold z_lo z_hi
  split <;> omega
theorem cuts_pre {S : zS} {i j : Nat} (hJ : zJ S) (hi : i < 4) (hj : j < 4) (hne : ¬ i = j) : zI (z_cut S i j) ∧ ¬ z_F (z_cut S i j) 36 (4 * z_lo i j + z_hi i j) = 0 ∧ ¬ z_F (z_cut S i j) 36 (4 * z_hi i j + z_lo i j) = 0 ∧ zI (z_lsts (z_W S (4 * z_lo i j + z_hi i j)).length (z_cut S i j) (4 * z_lo i j + z_hi i j)) ∧ z_D (z_lsts (z_W S (4 * z_lo i j + z_hi i j)).length (z_cut S i j) (4 * z_lo i j + z_hi i j)) = [] ∧ ¬ z_F (z_lsts (z_W S (4 * z_lo i j + z_hi i j)).length (z_cut S i j) (4 * z_lo i j + z_hi i j)) 36 (4 * z_hi i j + z_lo i j) = 0 ∧ z_W (z_lsts (z_W S (4 * z_lo i j + z_hi i j)).length (z_cut S i j) (4 * z_lo i j + z_hi i j)) (4 * z_hi i j + z_lo i j) = z_W S (4 * z_hi i j + z_lo i j) ∧ z_N (z_lsts (z_W S (4 * z_lo i j + z_hi i j)).length (z_cut S i j) (4 * z_lo i j + z_hi i j)) 9 = z_N S 9 := by
  obtain ⟨l1, l2, l3⟩ := lohi hne hi hj
  have h1 : zI (z_cut S i j) := I_36 hJ.1 hi hj hne (Or.inr rfl)
  have c1 : ¬ z_F (z_cut S i j) 36 (4 * z_lo i j + z_hi i j) = 0 := by
    unfold z_cut; rw [F36_set, if_pos (by omega)]; decide
  have c2 : ¬ z_F (z_cut S i j) 36 (4 * z_hi i j + z_lo i j) = 0 := by
    unfold z_cut; rw [F36_set, if_pos (by omega)]; decide
  obtain ⟨g1, g2, g3, g4, g5, g6, -⟩ := I_lsts (z_W S (4 * z_lo i j + z_hi i j)).length (z_cut S i j) (4 * z_lo i j + z_hi i j) h1 hJ.2.1 c1 rfl
  exact ⟨h1, c1, c2, g1, g2, by rw [g3]; exact c2, g5 _ (by omega) c2, g6⟩
theorem J_cut1 {S : zS} {i j : Nat} (hJ : zJ S) (hi : i < 4) (hj : j < 4) (hne : ¬ i = j) : zJN S (z_cuts S i j) := by
  obtain ⟨h1, c1, c2, g1, g2, g3, g4, g5⟩ := cuts_pre hJ hi hj hne
  obtain ⟨k1, k2, k3, k4, k5, k6, -⟩ := I_lsts (z_W S (4 * z_hi i j + z_lo i j)).length _ (4 * z_hi i j + z_lo i j) g1 g2 g3 (by rw [g4])
  have hK : zK (z_cut S i j) := hJ.2.2.kh ((kh_F (k := 36)).tr (kh_F (k := 36)))
  exact ⟨⟨k1, k2, K_lsts _ _ _ g1 (K_lsts _ _ _ h1 hK)⟩, k6.trans g5⟩
theorem J_cut {S : zS} {a b : Int32} (hJ : zJ S) : zJN S (zo_cut S a b).2 := by
  unfold zo_cut
  split
  · exact zJN.rf hJ
  · rename_i hn
    split
    · exact zJN.rf hJ
    · have : ∃ i, i < 4 ∧ a = nI i := ix_cases (N := 4) (v := a) (fun e => absurd (Or.inl e) hn) (fun t a b _ => ⟨t, a, b⟩)
      obtain ⟨i, hi, rfl⟩ := this
      have : ∃ i, i < 4 ∧ b = nI i := ix_cases (N := 4) (v := b) (fun e => absurd (Or.inr (Or.inl e)) hn) (fun t a b _ => ⟨t, a, b⟩)
      obtain ⟨j, hj, rfl⟩ := this
      show zJN S (z_cuts S (nI i).toNatClampNeg (nI j).toNatClampNeg)
      rw [cl40 (by omega), cl40 (by omega)]
      exact J_cut1 hJ hi hj (fun z => hn (Or.inr (Or.inr (by rw [z]))))
theorem m_losesAll_w {m a b c : Nat} {τ : xS} {S : zS} {Q : Int32 → xS → Prop} (ha : a < 4) (hb : b < 4) (hc : c < 2 ^ 31) (hR : zRM m τ S 0 c) (hI : zI S) (hD : z_D S = []) (hcut : ¬ z_F S 36 (4 * a + b) = 0) (k : ∀ τ2, zRM m τ2 (z_lsts (z_W S (4 * a + b)).length S (4 * a + b)) 0 c → Q (nI (z_W S (4 * a + b)).length) τ2) : wp_X7_losesAll τ m (nI a) (nI b) Q := by
  have h := m_losesAll (m := m) (Q := Q) ha hb hc (z_W S (4 * a + b)).length 0 τ S hR hI hD hcut rfl (fun τ2 R2 => by rw [Nat.zero_add]; exact k τ2 R2)
  unfold wp_X7_losesAll
  obtain ⟨f, hf⟩ := h
  refine ⟨f, ?_⟩
  have mono : ∀ (P P2 : Int32 → Prop), (∀ x, P x → P2 x) → ∀ f l1 l2 l3, wb_X7_firstLetter_2 P τ m f l1 l2 l3 → wb_X7_firstLetter_2 P2 τ m f l1 l2 l3 := by
    intro P P2 hP f
    induction f with
    | zero => intro l1 l2 l3 h; exact h
    | succ f ih =>
      intro l1 l2 l3 h
      unfold wb_X7_firstLetter_2 at h ⊢
      refine ⟨fun z => hP _ (h.1 z), fun z => ⟨(h.2 z).1, fun y => ⟨((h.2 z).2.1 y).1, fun x => hP _ (((h.2 z).2.1 y).2.1 x), fun x => ih _ _ _ (((h.2 z).2.1 y).2.2 x)⟩, fun y => ih _ _ _ ((h.2 z).2.2 y)⟩⟩
  exact mono _ _ (fun x hx => ⟨_, by rw [nI_0] at hx; exact hx⟩) f _ _ _ hf
theorem m_cutOp {m : Nat} {τ : xS} {S : zS} {c : Nat} {a b : Int32} {Q : Int32 → xS → Prop} (hc : c + 1 < 2 ^ 31) (hR : zRM m τ S 0 c) (hJ : zJ S) (kk : ∀ τ2, zRM m τ2 (zo_cut S a b).2 0 c → Q (zo_cut S a b).1 τ2) : wp_X7_cut τ m a b Q := by
  unfold zo_cut at kk
  have bad : (zix 4 a = none ∨ zix 4 b = none ∨ a = b) → wb_X7_cut_13 Q τ m := by
    intro z
    rw [if_pos z] at kk
    exact kk τ hR
  unfold wp_X7_cut
  refine m_houses (fun e => ⟨fun _ => bad (e.elim Or.inl (fun z => Or.inr (Or.inl z))), fun y => absurd rfl y⟩) (fun i j hi hj e1 e2 e3 e4 => ⟨fun y => absurd y (by decide), fun _ => ⟨fun z => bad (Or.inr (Or.inr z)), fun hne => ?_⟩⟩)
  rw [if_neg (fun z => z.elim (fun z => by rw [e3] at z; cases z) (fun z => z.elim (fun z => by rw [e4] at z; cases z) hne))] at kk
  subst e1; subst e2
  have hij : ¬ i = j := fun z => hne (by rw [z])
  rw [cl40 (by omega), cl40 (by omega)] at kk
  rw [wix, wix, cl40 (by omega), cl40 (by omega), rdF hR (k := 36)]
  refine ⟨vpI (by omega), fun e0 => ⟨vpI (by omega), fun τ1 s1 => ⟨vpI (by omega), fun τ2 s2 => ?_⟩⟩, fun n0 => ?_⟩
  · rw [if_neg (fun z => z e0)] at kk
    have R1 := m_F2 hR s1
    have R2 : zRM m τ2 (z_cut S i j) 0 c := m_F2 R1 s2
    obtain ⟨h1, c1, c2, g1, g2, g3, g4, g5⟩ := cuts_pre hJ hi hj hij
    obtain ⟨l1, l2, l3⟩ := lohi hij hi hj
    have key : wb_X7_cut_74 Q τ2 m (nI (z_lo i j)) (nI (z_hi i j)) := by
      unfold wb_X7_cut_74
      refine m_losesAll_w (by omega) l2 (by omega) R2 h1 hJ.2.1 c1 (fun τ3 R3 => ?_)
      have wc : z_W (z_cut S i j) = z_W S := rfl
      rw [wc] at R3
      rw [wc]
      refine m_losesAll_w l2 (by omega) (by omega) R3 g1 g2 g3 (fun τ4 R4 => ?_)
      rw [g4] at R4
      rw [g4]
      have e : nI (z_W S (4 * z_lo i j + z_hi i j)).length + nI (z_W S (4 * z_hi i j + z_lo i j)).length = nI ((z_W S (4 * z_lo i j + z_hi i j)).length + (z_W S (4 * z_hi i j + z_lo i j)).length) := nI_add _ _
      rw [e]
      exact kk τ4 R4
    rw [nI_leI (by omega) (by omega)]
    unfold wb_X7_cut_63
    rw [nI_leI (by omega) (by omega)]
    unfold z_lo z_hi at key
    refine ⟨fun z => ⟨fun _ => ?_, fun y => absurd z y⟩, fun z => ⟨fun y => absurd y z, fun _ => ?_⟩⟩
    · rw [if_pos z, if_pos z] at key; exact key
    · rw [if_neg z, if_neg z] at key; exact key
  · rw [if_pos n0] at kk
    exact kk τ hR
def zo_again (S : zS) (a b : Int32) : Int32 × zS :=
  if zix 4 a = none ∨ zix 4 b = none ∨ a = b then (-1, S)
  else if z_F S 36 (4 * a.toNatClampNeg + b.toNatClampNeg) = 0 then (-2, S)
  else (1, zs_F (zs_F S 36 (4 * a.toNatClampNeg + b.toNatClampNeg) 0) 36 (4 * b.toNatClampNeg + a.toNatClampNeg) 0)
theorem J_again {S : zS} {a b : Int32} (hJ : zJ S) : zJN S (zo_again S a b).2 := by
  unfold zo_again
  split
  · exact zJN.rf hJ
  · rename_i hn
    split
    · exact zJN.rf hJ
    · have : ∃ i, i < 4 ∧ a = nI i := ix_cases (N := 4) (v := a) (fun e => absurd (Or.inl e) hn) (fun t a b _ => ⟨t, a, b⟩)
      obtain ⟨i, hi, rfl⟩ := this
      have : ∃ i, i < 4 ∧ b = nI i := ix_cases (N := 4) (v := b) (fun e => absurd (Or.inr (Or.inl e)) hn) (fun t a b _ => ⟨t, a, b⟩)
      obtain ⟨j, hj, rfl⟩ := this
      show zJN S (zs_F (zs_F S 36 (4 * (nI i).toNatClampNeg + (nI j).toNatClampNeg) 0) 36 (4 * (nI j).toNatClampNeg + (nI i).toNatClampNeg) 0)
      rw [cl40 (by omega), cl40 (by omega)]
      exact ⟨⟨I_36 hJ.1 hi hj (fun z => hn (Or.inr (Or.inr (by rw [z])))) (Or.inl rfl), hJ.2.1, hJ.2.2.kh ((kh_F (k := 36)).tr (kh_F (k := 36)))⟩, rfl⟩
theorem m_againOp {m : Nat} {τ : xS} {S : zS} {c : Nat} {a b : Int32} {Q : Int32 → xS → Prop} (hR : zRM m τ S 0 c) (hJ : zJ S) (kk : ∀ τ2, zRM m τ2 (zo_again S a b).2 0 c → Q (zo_again S a b).1 τ2) : wp_X7_again τ m a b Q := by
  unfold zo_again at kk
  have bad : (zix 4 a = none ∨ zix 4 b = none ∨ a = b) → wb_X7_again_13 Q τ m := by
    intro z
    rw [if_pos z] at kk
    exact kk τ hR
  unfold wp_X7_again
  refine m_houses (fun e => ⟨fun _ => bad (e.elim Or.inl (fun z => Or.inr (Or.inl z))), fun y => absurd rfl y⟩) (fun i j hi hj e1 e2 e3 e4 => ⟨fun y => absurd y (by decide), fun _ => ⟨fun z => bad (Or.inr (Or.inr z)), fun hne => ?_⟩⟩)
  rw [if_neg (fun z => z.elim (fun z => by rw [e3] at z; cases z) (fun z => z.elim (fun z => by rw [e4] at z; cases z) hne))] at kk
  subst e1; subst e2
  rw [cl40 (by omega), cl40 (by omega)] at kk
  rw [wix, wix, cl40 (by omega), cl40 (by omega), rdF hR (k := 36)]
  refine ⟨vpI (by omega), fun e0 => ?_, fun n0 => ⟨vpI (by omega), fun τ1 s1 => ⟨vpI (by omega), fun τ2 s2 => ?_⟩⟩⟩
  · rw [if_pos e0] at kk
    exact kk τ hR
  · rw [if_neg n0] at kk
    exact kk τ2 (m_F2 (m_F2 hR s1) s2)
