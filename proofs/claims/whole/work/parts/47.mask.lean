/-! ask: a new promise -/
def z_nask (S : zS) (h g : Nat) (act n o : Int32) : zS :=
  let p := z_N S 1
  zs_F (zs_F (zs_F (zs_F (zs_F (zs_F (zs_F (zs_F (zs_F (zs_F (zs_F (zs_F (zs_N S 1 (p + 1)) 16 p 0) 9 p (nI h)) 10 p (nI g)) 11 p 0) 12 p 0) 13 p 0) 14 p 0) 15 p 0) 17 p act) 18 p n) 19 p o) 20 p (-1)
theorem zF_nask {S : zS} {h g : Nat} {act n o : Int32} {f j : Nat} : z_F (z_nask S h g act n o) f j = if j = z_N S 1 then (if f = 20 then -1 else if f = 19 then o else if f = 18 then n else if f = 17 then act else if f = 15 ∨ f = 14 ∨ f = 13 ∨ f = 12 ∨ f = 11 ∨ f = 16 then 0 else if f = 10 then nI g else if f = 9 then nI h else z_F S f j) else z_F S f j := by
  simp only [z_nask, zF_eq, zF_N]
  by_cases e : j = z_N S 1
  · subst e
    simp only [and_true, if_true]
    by_cases h15 : f = 15 ∨ f = 14 ∨ f = 13 ∨ f = 12 ∨ f = 11 ∨ f = 16
    · rcases h15 with z | z | z | z | z | z <;> subst z <;> simp
    · have n1 : ¬ f = 15 := fun z => h15 (by omega)
      have n2 : ¬ f = 14 := fun z => h15 (by omega)
      have n3 : ¬ f = 13 := fun z => h15 (by omega)
      have n4 : ¬ f = 12 := fun z => h15 (by omega)
      have n5 : ¬ f = 11 := fun z => h15 (by omega)
      have n6 : ¬ f = 16 := fun z => h15 (by omega)
      simp [n1, n2, n3, n4, n5, n6]
  · simp only [e, and_false, if_false]
theorem I_nask {S : zS} {h g a : Nat} {n o : Int32} (hI : zI S) (hN : z_N S 1 < 100) (hh : h < 4) (hg : g < 4) (ha : a ≤ 7) (ho : a = 4 → ∃ t, t < z_N S 0 ∧ o = nI t) : zI (z_nask S h g (nI a) n o) ∧ zFree (z_nask S h g (nI a) n o) (z_N S 1) := by
  obtain ⟨⟨v1, v2, v3, v4, v5, v6, v7⟩, ha1, hb, hc, hd, he, hg1, hh2, hi, hj, hkk, hm⟩ := hI
  have hF : ∀ f j, j ≠ z_N S 1 → z_F (z_nask S h g (nI a) n o) f j = z_F S f j := by
    intro f j hfj
    rw [zF_nask, if_neg hfj]
  have hF2 : ∀ f, (f < 9 ∨ 20 < f) → z_F (z_nask S h g (nI a) n o) f = z_F S f := by
    intro f hf
    funext j
    rw [zF_nask]
    by_cases e : j = z_N S 1
    · rw [if_pos e]
      repeat rw [if_neg (by omega)]
    · rw [if_neg e]
  have hN0 : z_N (z_nask S h g (nI a) n o) 0 = z_N S 0 := rfl
  have hN1 : z_N (z_nask S h g (nI a) n o) 1 = z_N S 1 + 1 := rfl
  have hN2 : z_N (z_nask S h g (nI a) n o) 2 = z_N S 2 := rfl
  have e9 : z_F (z_nask S h g (nI a) n o) 9 (z_N S 1) = nI h := by rw [zF_nask]; simp
  have e10 : z_F (z_nask S h g (nI a) n o) 10 (z_N S 1) = nI g := by rw [zF_nask]; simp
  have e11 : z_F (z_nask S h g (nI a) n o) 11 (z_N S 1) = 0 := by rw [zF_nask]; simp
  have e13 : z_F (z_nask S h g (nI a) n o) 13 (z_N S 1) = 0 := by rw [zF_nask]; simp
  have e17 : z_F (z_nask S h g (nI a) n o) 17 (z_N S 1) = nI a := by rw [zF_nask]; simp
  have e19 : z_F (z_nask S h g (nI a) n o) 19 (z_N S 1) = o := by rw [zF_nask]; simp
  have e20 : z_F (z_nask S h g (nI a) n o) 20 (z_N S 1) = -1 := by rw [zF_nask]; simp
  have hak : ∀ p, p ≠ z_N S 1 → z_ak (z_nask S h g (nI a) n o) p = z_ak S p := fun p hp => by unfold z_ak; rw [hF 9 p hp]
  have hhm : ∀ p, p ≠ z_N S 1 → z_hm (z_nask S h g (nI a) n o) p = z_hm S p := fun p hp => by unfold z_hm; rw [hF 10 p hp]
  have hhs : ∀ t, z_hs (z_nask S h g (nI a) n o) t = z_hs S t := fun t => by unfold z_hs; rw [hF2 1 (by omega)]
  have hval : ∀ st v, zval S st v → zval (z_nask S h g (nI a) n o) st v := fun st v hz => hz
  have hwp : ∀ w, z_wp (z_nask S h g (nI a) n o) w = z_wp S w := fun w => rfl
  have hfree : ∀ w, z_N S 1 ∉ z_wp S w := fun w hp => by
    obtain ⟨l, hl, h2, e3⟩ := mem_wp.mp hp
    have := zLok_lt (ha1 w l hl).2 h2
    omega
  have hfreeD : z_N S 1 ∉ (z_D S).map Prod.fst := fun hp => by
    rw [List.mem_map] at hp
    obtain ⟨d, hd1, e⟩ := hp
    have := (hc.1 d hd1).1
    omega
  refine ⟨⟨⟨⟨v1.1, by rw [hN1]; omega, v1.2.2⟩, fun t ht => ?_, fun p hp => ?_, fun w hw => ?_, ?_, ?_, ?_⟩, fun w l hl => ⟨(ha1 w l hl).1, ?_⟩, hb, ⟨fun d hd1 => ?_, hc.2⟩, fun t p hp => ?_, he, fun t p hp => ?_, hh2, fun w p h2 hw hp hp1 hh3 hh4 hst => ?_, ?_, fun p hp => ?_, fun p hp => ?_⟩, ⟨by rw [hN1]; omega, hfree, hfreeD⟩⟩
  · rw [hhs, hF2 1 (by omega), hF2 2 (by omega), hF2 4 (by omega)]
    exact v2 t ht
  · by_cases e : p = z_N S 1
    · subst e
      refine ⟨⟨?_, ?_⟩, ⟨?_, ?_⟩, ⟨a, ha, e17⟩, fun z => ?_⟩
      · unfold z_ak; rw [e9, cl40 (by omega)]
      · unfold z_ak; rw [e9, cl40 (by omega)]; exact hh
      · unfold z_hm; rw [e10, cl40 (by omega)]
      · unfold z_hm; rw [e10, cl40 (by omega)]; exact hg
      · rw [e17, show (4 : Int32) = nI 4 from rfl, nI_eq (by omega) (by omega)] at z
        rw [e19]
        exact ho z
    · rw [hak p e, hhm p e, hF 9 p e, hF 10 p e, hF 17 p e, hF 19 p e]
      exact v3 p (by rw [hN1] at hp; omega)
  · obtain ⟨p, h2, t, q1, q2, q3, q4, q5, q6, q7, q8⟩ := v4 w hw
    refine ⟨p, h2, t, by rw [hN1]; omega, by rw [hF2 23 (by omega)]; exact q2, q3, by rw [hF2 24 (by omega)]; exact q4, ?_, q6, by rw [hF2 25 (by omega)]; exact q7, by rw [hhs]; exact q8⟩
    rw [hak p (by omega), hhm p (by omega)]
    exact q5
  · rw [hF2 36 (by omega)]; exact v5
  · rw [hF2 36 (by omega)]; exact v6
  · rw [hF2 36 (by omega)]; exact v7
  · rcases (ha1 w l hl).2 with ⟨k1, k2, k3, k4, k5, k6⟩ | ⟨k1, k2, k3, k4, k5, k6⟩ | ⟨k1, k2, k3, k4, k5, k6, k7, k8⟩ | k
    · refine Or.inl ⟨k1, by rw [hN1]; omega, by rw [hF _ _ (by omega)]; exact k3, by rw [hF _ _ (by omega)]; exact k4, ?_, k6⟩
      rcases k5 with z | ⟨q, z1, z2, z3, z4⟩
      · exact Or.inl z
      · exact Or.inr ⟨q, by rw [hN1]; omega, z2, z3, by rw [hF _ _ (by omega)]; exact z4⟩
    · exact Or.inr (Or.inl ⟨k1, by rw [hN1]; omega, by rw [hF _ _ (by omega)]; exact k3, by rw [hF _ _ (by omega)]; exact k4, by rw [hhm _ (by omega)]; exact k5, k6⟩)
    · exact Or.inr (Or.inr (Or.inl ⟨k1, by rw [hN1]; omega, by rw [hF _ _ (by omega)]; exact k3, by rw [hF _ _ (by omega)]; exact k4, by rw [hF _ _ (by omega)]; exact k5, by rw [hak _ (by omega)]; exact k6, by rw [hak _ (by omega), hhm _ (by omega)]; exact k7, k8⟩))
    · exact Or.inr (Or.inr (Or.inr k))
  · obtain ⟨d1, d2, d3, d4, d5⟩ := hc.1 d hd1
    exact ⟨by rw [hN1]; omega, by rw [hF _ _ (by omega)]; exact d2, by rw [hF _ _ (by omega)]; exact d3, d4, d5⟩
  · obtain ⟨d1, d2, d3, d4, d5⟩ := hd t p hp
    exact ⟨d1, by rw [hN1]; omega, by rw [hF _ _ (by omega)]; exact d3, by rw [hF _ _ (by omega)]; exact d4, by rw [hF2 2 (by omega)]; exact d5⟩
  · obtain ⟨d1, d2, d3, d4⟩ := hg1 t p hp
    exact ⟨by rw [hN1]; omega, by rw [hN1]; omega, by rw [hF _ _ (by omega)]; exact d3, by rw [hF _ _ (by omega)]; exact d4⟩
  · have hw2 : w < z_N S 2 := hw
    rw [hF2 23 (by omega)] at hp
    rw [hF2 24 (by omega)] at hh3
    rw [hF2 26 (by omega)]
    obtain ⟨p2, h3, t, q1, q2, -⟩ := v4 w hw2
    have hpp : p = p2 := by
      rw [q2] at hp
      exact ((nI_eq (by omega) (by rw [hN1] at hp1; omega)).mp hp).symm
    have hne : p ≠ z_N S 1 := by omega
    rw [hhm p hne, hF 11 p hne, hF 13 p hne] at hst
    exact hi w p h2 hw2 hp (by omega) hh3 hh4 hst
  · have e1 : z_c2 (z_nask S h g (nI a) n o) = z_c2 S := rfl
    have e2 : z_ps (z_nask S h g (nI a) n o) = z_ps S := ps_congr hN2 (fun w => by rw [hF2 26 (by omega)])
    rw [e1, e2]; exact hj
  · by_cases e : p = z_N S 1
    · subst e
      rw [e20]; exact Or.inl (by decide)
    · rw [hF _ _ e, hF _ _ e]
      exact hkk p (by rw [hN1] at hp; omega)
  · by_cases e : p = z_N S 1
    · subst e
      rw [e11, e13]
      exact ⟨fun _ => rfl, fun z => absurd rfl z⟩
    · rw [hF _ _ e, hF _ _ e, hF _ _ e]
      exact hm p (by rw [hN1] at hp; omega)
def za_t (S : zS) (k to : Int32) : Option Nat := if k = 0 then zix (z_N S 0) to else none
def za_p (S : zS) (k to : Int32) : Option Nat := if k = 1 then zix (z_N S 1) to else none
def za_g (S : zS) (th pr : Option Nat) : Nat := match th with
  | some t => z_hs S t
  | none => match pr with
    | some q => z_hm S q
    | none => 0
def za_k (S : zS) (pr : Option Nat) (h : Int32) : Bool := match pr with
  | none => true
  | some q => decide (z_F S 9 q = h ∨ z_F S 10 q = h)
def z_ask (S : zS) (a : Nat) (act n o : Int32) (th pr : Option Nat) : zS := z_all 1000 (z_send (z_nask S a (za_g S th pr) act n o) (z_N S 1) a (za_g S th pr) th pr)
def zo_ask (S : zS) (h k to act n o : Int32) : Int32 × zS :=
  if zix 4 h = none ∨ (za_t S k to = none ∧ za_p S k to = none) ∨ (act < 0 ∨ 7 < act) ∨ (act = 4 ∧ zix (z_N S 0) o = none) then (-1, S)
  else if za_k S (za_p S k to) h = false then (-2, S)
  else if z_N S 1 = 100 then (-3, S)
  else (nI (z_N S 1), z_ask S h.toNatClampNeg act n o (za_t S k to) (za_p S k to))
/-- what an ask that is let in is -/
def zAk (S : zS) (a x : Nat) (o : Int32) (th pr : Option Nat) : Prop := a < 4 ∧ x ≤ 7 ∧ (x = 4 → ∃ t, t < z_N S 0 ∧ o = nI t) ∧ z_N S 1 < 100 ∧ ((∃ t, t < z_N S 0 ∧ th = some t ∧ pr = none) ∨ (∃ q, q < z_N S 1 ∧ th = none ∧ pr = some q))
theorem g_lt {S : zS} {a x : Nat} {o : Int32} {th pr : Option Nat} (hI : zI S) (h : zAk S a x o th pr) : za_g S th pr < 4 := by
  obtain ⟨-, -, -, -, ⟨t, ht, rfl, rfl⟩ | ⟨q, hq, rfl, rfl⟩⟩ := h
  · exact (hI.1.2.1 t ht).1.2
  · exact (hI.1.2.2.1 q hq).2.1.2
theorem I_ask1 {S : zS} {a x : Nat} {n o : Int32} {th pr : Option Nat} (hI : zI S) (h : zAk S a x o th pr) : zI (z_nask S a (za_g S th pr) (nI x) n o) ∧ zFree (z_nask S a (za_g S th pr) (nI x) n o) (z_N S 1) ∧ zI (z_send (z_nask S a (za_g S th pr) (nI x) n o) (z_N S 1) a (za_g S th pr) th pr) := by
  have hg := g_lt hI h
  obtain ⟨h1, h2, h3, h4, h5⟩ := h
  obtain ⟨i1, i2⟩ := I_nask (n := n) hI h4 h1 hg h2 h3
  have e11 : z_F (z_nask S a (za_g S th pr) (nI x) n o) 11 (z_N S 1) = 0 := by rw [zF_nask]; simp
  have e20 : z_F (z_nask S a (za_g S th pr) (nI x) n o) 20 (z_N S 1) = -1 := by rw [zF_nask]; simp
  refine ⟨i1, i2, I_send i1 i2 e11 h1 hg ?_⟩
  rcases h5 with ⟨t, ht, e1, e2⟩ | ⟨q, hq, e1, e2⟩
  · exact Or.inl ⟨t, ht, e1, e2⟩
  · exact Or.inr ⟨q, Nat.lt_succ_of_lt hq, e1, e2, by rw [e20]; decide⟩
theorem J_ask1 {S : zS} {a x : Nat} {n o : Int32} {th pr : Option Nat} (hJ : zJ S) (h : zAk S a x o th pr) : zJN S (z_ask S a (nI x) n o th pr) := by
  obtain ⟨i1, i2, i3⟩ := I_ask1 (n := n) hJ.1 h
  have g := I_all 1000 _ i3 (by omega)
  have hK1 : zK (z_nask S a (za_g S th pr) (nI x) n o) := by
    refine hJ.2.2.kh ⟨rfl, ?_, rfl⟩
    funext j
    rw [zF_nask]
    by_cases e : j = z_N S 1
    · rw [if_pos e]
      repeat rw [if_neg (by omega)]
    · rw [if_neg e]
  have hn : ∀ t, z_N S 1 ∉ z_H (z_nask S a (za_g S th pr) (nI x) n o) t := fun t z => by
    have := (hJ.1.2.2.2.2.1 t _ z).2.1
    omega
  refine ⟨⟨g.1, g.2.1, (hK1.kh (kh_send hn)).kh (kh_all 1000 _ i3)⟩, ?_⟩
  exact (kp_all 1000 _).2.1.trans (zFr_send.kp.2.1.trans rfl)
theorem ak_of {S : zS} {h k to act o : Int32} (hI : zI S) (hn : ¬ (zix 4 h = none ∨ (za_t S k to = none ∧ za_p S k to = none) ∨ (act < 0 ∨ 7 < act) ∨ (act = 4 ∧ zix (z_N S 0) o = none))) (h100 : ¬ z_N S 1 = 100) : ∃ a x, h = nI a ∧ act = nI x ∧ zAk S a x o (za_t S k to) (za_p S k to) := by
  have b := hI.1.1
  have : ∃ a, a < 4 ∧ h = nI a := ix_cases (N := 4) (v := h) (fun e => absurd (Or.inl e) hn) (fun t a b _ => ⟨t, a, b⟩)
  obtain ⟨a, ha, rfl⟩ := this
  have : ∃ x, x < 8 ∧ act = nI x := ix_cases (N := 8) (v := act) (fun e => by
    exfalso
    apply hn
    refine Or.inr (Or.inr (Or.inl ?_))
    rcases ix_none.mp e with z | z
    · exact Or.inl z
    · refine Or.inr ?_
      rw [Int32.le_iff_toInt_le, nI_toInt (by omega)] at z
      rw [Int32.lt_iff_toInt_lt, show (7 : Int32).toInt = 7 from rfl]
      omega) (fun t a b _ => ⟨t, a, b⟩)
  obtain ⟨x, hx, rfl⟩ := this
  refine ⟨a, x, rfl, rfl, ha, by omega, fun e4 => ?_, by omega, ?_⟩
  · exact ix_cases (N := z_N S 0) (v := o) (fun e => absurd (Or.inr (Or.inr (Or.inr ⟨by rw [e4]; rfl, e⟩))) hn) (fun t a b _ => ⟨t, a, b⟩)
  · by_cases k0 : k = 0
    · have e2 : za_p S k to = none := by unfold za_p; rw [if_neg (by rw [k0]; decide)]
      cases e1 : za_t S k to with
      | none => exact absurd (Or.inr (Or.inl ⟨e1, e2⟩)) hn
      | some t =>
        refine Or.inl ⟨t, ?_, rfl, e2⟩
        unfold za_t at e1
        rw [if_pos k0] at e1
        exact (ix_some e1).1
    · have e1 : za_t S k to = none := by unfold za_t; rw [if_neg k0]
      cases e2 : za_p S k to with
      | none => exact absurd (Or.inr (Or.inl ⟨e1, e2⟩)) hn
      | some q =>
        refine Or.inr ⟨q, ?_, e1, rfl⟩
        unfold za_p at e2
        split at e2
        · exact (ix_some e2).1
        · cases e2
theorem J_ask {S : zS} {h k to act n o : Int32} (hJ : zJ S) : zJN S (zo_ask S h k to act n o).2 := by
  unfold zo_ask
  split
  · exact zJN.rf hJ
  · rename_i hn
    split
    · exact zJN.rf hJ
    · split
      · exact zJN.rf hJ
      · rename_i h100
        obtain ⟨a, x, rfl, rfl, hk⟩ := ak_of hJ.1 hn h100
        show zJN S (z_ask S (nI a).toNatClampNeg (nI x) n o (za_t S k to) (za_p S k to))
        rw [cl40 (by have := hk.1; omega)]
        exact J_ask1 hJ hk
theorem F_id {S : zS} {k i : Nat} {v : Int32} (h : z_F S k i = v) : zs_F S k i v = S := by
  have e : xu_2 (z_F S) k i v = z_F S := by
    funext k2 j
    unfold xu_2
    by_cases z : k2 = k ∧ j = i
    · rw [if_pos z, z.1, z.2, h]
    · rw [if_neg z]
  show (xu_2 (z_F S) k i v, z_N S, z_u S, z_r S, z_W S, z_H S, z_Q S, z_D S) = S
  rw [e]
  rfl
theorem m_N1 {m : Nat} {τ τ2 : xS} {S : zS} {k0 c : Nat} (h : zRM m τ S k0 c) (e : τ2 = xs_I τ 457 m (nI (z_N S 1 + 1))) : zRM m τ2 (zs_F (zs_N S 1 (z_N S 1 + 1)) 16 (z_N S 1) 0) k0 c := by
  obtain ⟨⟨d1, d2, d3, d4, d5, d6, d7⟩, ⟨fl, hl⟩, ⟨kb, sn, h1, h2, h3, h4, h5, h6, h7, h8⟩, hq⟩ := h
  have h16 : z_F (zs_N S 1 (z_N S 1 + 1)) 16 (z_N S 1) = 0 := (h8 (z_N S 1)).2 (Nat.le_refl _)
  rw [F_id h16]
  obtain ⟨A, L, W, I⟩ := st_I e
  have hI2 : ∀ g, g ≠ 457 → xh_I τ2 g m = xh_I τ g m := fun g hg => by rw [I, if_neg hg]
  have hN1 : z_N (zs_N S 1 (z_N S 1 + 1)) 1 = z_N S 1 + 1 := rfl
  have hlt : ∀ p, z_F S 16 p = 1 ∨ z_F S 16 p = 2 → (p < z_N S 1 + 1 ↔ p < z_N S 1) := fun p hp => by
    constructor
    · intro z
      have : p ≠ z_N S 1 := fun y => by
        rw [y, (h8 (z_N S 1)).2 (Nat.le_refl _)] at hp
        rcases hp with hp | hp <;> exact absurd hp (by decide)
      omega
    · intro z; omega
  refine ⟨⟨⟨W d1.1, by rw [hI2 _ (by omega)]; exact d1.2⟩, fun k2 i hk2 => by rw [A]; exact d2 k2 i hk2, by rw [hI2 _ (by omega)]; exact d3, by rw [I, if_pos rfl]; rfl, by rw [hI2 _ (by omega)]; exact d5, by rw [hI2 _ (by omega)]; exact d6, by rw [L]; exact d7⟩, ⟨fl, zMl_congr hl (fun _ _ _ _ => by rw [A]) (hI2 _ (by omega)) rfl⟩, ⟨kb, sn, fun p => by rw [A]; exact h1 p, by rw [hI2 _ (by omega)]; exact h2, fun t p => ?_, fun t p => ?_, h5, h6, fun p hp1 hp2 => ?_, fun p => ⟨(h8 p).1, fun z => (h8 p).2 (by rw [hN1] at z; omega)⟩⟩, zMq_congr hq (fun _ _ _ _ => by rw [A]) (hI2 _ (by omega)) rfl⟩
  · rw [hN1]
    show p ∈ z_H S t ↔ p < z_N S 1 + 1 ∧ z_F S 16 p = 1 ∧ kb p = t
    rw [h3 t p]
    exact ⟨fun ⟨a, b, c⟩ => ⟨by omega, b, c⟩, fun ⟨a, b, c⟩ => ⟨(hlt p (Or.inl b)).mp a, b, c⟩⟩
  · rw [hN1]
    show p ∈ z_Q S t ↔ p < z_N S 1 + 1 ∧ z_F S 16 p = 2 ∧ kb p = t
    rw [h4 t p]
    exact ⟨fun ⟨a, b, c⟩ => ⟨by omega, b, c⟩, fun ⟨a, b, c⟩ => ⟨(hlt p (Or.inr b)).mp a, b, c⟩⟩
  · exact h7 p ((hlt p hp2).mp hp1) hp2
theorem m_ask2 {m : Nat} {τ : xS} {S : zS} {c a x : Nat} {k to n o : Int32} {th pr : Option Nat} {Q : Int32 → xS → Prop} (hc : c + 1 < 2 ^ 31) (hR : zRM m τ S 0 c) (hI : zI S) (hA : zAk S a x o th pr) (hk : (k = 0 ∧ ∃ t, t < z_N S 0 ∧ to = nI t ∧ th = some t ∧ pr = none) ∨ (k = 1 ∧ ∃ q, q < z_N S 1 ∧ to = nI q ∧ th = none ∧ pr = some q)) (kk : ∀ τ2, zRM m τ2 (z_ask S a (nI x) n o th pr) 0 c → Q (nI (z_N S 1)) τ2) : wb_X7_ask_91 Q τ m (nI a) k to (nI x) n o := by
  have b := hI.1.1
  obtain ⟨i1, i2, i3⟩ := I_ask1 (n := n) hI hA
  have hg := g_lt hI hA
  have h100 : ¬ z_N S 1 = 100 := by have := hA.2.2.2.1; omega
  have hN : xh_I τ 457 m = nI (z_N S 1) := hR.1.2.2.2.1
  have hv : vp_in (nI (z_N S 1)) 100 := vpI (by omega)
  have hw := hR.1.1.1.1
  unfold wb_X7_ask_91
  rw [hN, show (100 : Int32) = nI 100 from rfl, nI_eq (by omega) (by omega), nI_1]
  refine ⟨fun z => absurd z h100, fun _ τ1 e1 => ⟨hv, fun τ2 e2 => ?_⟩⟩
  have R1 := m_N1 hR e1
  rw [cl40 (by omega)] at e2
  have R2 := m_F2 R1 e2
  have K2 : xh_k τ2 = xh_k τ ∧ xh_z τ2 = xh_z τ := by subst e2; subst e1; exact ⟨rfl, rfl⟩
  have key : wb_X7_ask_152 Q τ2 m (nI a) k to (nI x) n o (nI (z_N S 1)) (m + 10) (nI (z_N S 1)) (nI (za_g S th pr)) := by
    unfold wb_X7_ask_152
    rw [K2.1, K2.2, cl40 (by omega)]
    refine ⟨hw.2.2.2.2.2.2.2.2.2.2.1.2.1, by rw [hw.2.2.2.2.2.2.2.2.2.2.1.2.2]; exact hv, ?_⟩
    intro τ3 e3
    have R3 := m_F2 R2 e3
    refine ⟨hv, ?_⟩
    intro τ4 e4
    have R4 := m_F2 R3 e4
    refine ⟨hv, ?_⟩
    intro τ5 e5
    have R5 := m_F2 R4 e5
    refine ⟨hv, ?_⟩
    intro τ6 e6
    have R6 := m_F2 R5 e6
    refine ⟨hv, ?_⟩
    intro τ7 e7
    have R7 := m_F2 R6 e7
    refine ⟨hv, ?_⟩
    intro τ8 e8
    have R8 := m_F2 R7 e8
    refine ⟨hv, ?_⟩
    intro τ9 e9
    have R9 := m_F2 R8 e9
    refine ⟨hv, ?_⟩
    intro τ10 e10
    have R10 := m_F2 R9 e10
    refine ⟨hv, ?_⟩
    intro τ11 e11
    have R11 := m_F2 R10 e11
    refine ⟨hv, ?_⟩
    intro τ12 e12
    have R12 : zRM m τ12 (z_nask S a (za_g S th pr) (nI x) n o) 0 c := m_F2 R11 e12
    have e10b : xh_a τ12 (m + 10) (z_N S 1) = nI (za_g S th pr) := by
      rw [rdF R12 (k := 10), zF_nask]; simp
    have send : wp_X7_sends τ12 m (nI (z_N S 1)) (nI a) (nI (za_g S th pr)) (zOI th) (zOI pr) (fun σ1 => wp_X7_doesAll σ1 m (fun σ2 => Q (nI (z_N S 1)) σ2)) :=
      m_send R12 i1 (Nat.zero_le _) i2 hA.1 hg (fun τ13 R13 => m_doesAll (by omega) R13 i3 (fun τ14 R14 => kk τ14 R14))
    rw [e10b]
    unfold wb_X7_ask_249 wb_X7_ask_259
    rcases hk with ⟨k0, t, ht, et, e1, e2⟩ | ⟨k1, q, hq, eq, e1, e2⟩
    · rw [e1, e2] at send
      subst et
      refine ⟨hv, fun _ => ⟨fun _ => ?_, fun z => absurd k0 z⟩, fun z => absurd k0 z⟩
      rw [e1, e2]
      exact send
    · rw [e1, e2] at send
      subst eq
      have n0 : ¬ k = 0 := by rw [k1]; decide
      refine ⟨hv, fun z => absurd z n0, fun _ => ⟨fun z => absurd z n0, fun _ => ?_⟩⟩
      rw [e1, e2]
      exact send
  rcases hk with ⟨k0, t, ht, et, e1, e2⟩ | ⟨k1, q, hq, eq, e1, e2⟩
  · refine ⟨fun _ => ⟨by rw [et]; exact vpI (by omega), ?_⟩, fun z => absurd k0 z⟩
    have eg : xh_a τ2 (m + 1) to.toNatClampNeg = nI (za_g S th pr) := by
      rw [et, cl40 (by omega), rdF R2 (k := 1), e1]
      exact (hI.1.2.1 t ht).1.1
    rw [eg]
    exact key
  · have n0 : ¬ k = 0 := by rw [k1]; decide
    refine ⟨fun z => absurd z n0, fun _ => ⟨by rw [eq]; exact vpI (by omega), ?_⟩⟩
    have eg : xh_a τ2 (m + 10) to.toNatClampNeg = nI (za_g S th pr) := by
      rw [eq, cl40 (by omega), rdF R2 (k := 10), e1, e2, zF_ne (by omega), zF_ne (by omega)]
      exact (hI.1.2.2.1 q hq).2.1.1
    rw [eg]
    exact key
theorem m_isOf {m : Nat} {τ : xS} {S : zS} {k0 c q : Nat} {h : Int32} {Q : Int32 → Prop} (hR : zRM m τ S k0 c) (hq : q < 100) (h0 : ¬ (z_F S 9 q = h ∨ z_F S 10 q = h) → Q 0) (h1 : (z_F S 9 q = h ∨ z_F S 10 q = h) → Q 1) : wp_X7_isOf τ m (nI q) h Q := by
  have hv : vp_in (nI q) 100 := vpI (by omega)
  unfold wp_X7_isOf
  rw [cl40 (by omega), rdF hR (k := 9), rdF hR (k := 10)]
  exact ⟨hv, fun e => ⟨Or.inr rfl, h1 (Or.inl e)⟩, fun n9 => ⟨hv, fun e => ⟨Or.inr rfl, h1 (Or.inr e)⟩, fun n10 => ⟨Or.inl rfl, h0 (fun z => z.elim n9 n10)⟩⟩⟩
theorem m_askOp {m : Nat} {τ : xS} {S : zS} {c : Nat} {h k to act n o : Int32} {Q : Int32 → xS → Prop} (hc : c + 1 < 2 ^ 31) (hR : zRM m τ S 0 c) (hJ : zJ S) (kk : ∀ τ2, zRM m τ2 (zo_ask S h k to act n o).2 0 c → Q (zo_ask S h k to act n o).1 τ2) : wp_X7_ask τ m h k to act n o Q := by
  have b := hJ.1.1.1
  unfold zo_ask at kk
  have bad : (zix 4 h = none ∨ (za_t S k to = none ∧ za_p S k to = none) ∨ (act < 0 ∨ 7 < act) ∨ (act = 4 ∧ zix (z_N S 0) o = none)) → wb_X7_ask_72 Q τ m := by
    intro z
    rw [if_pos z] at kk
    exact kk τ hR
  have full : ¬ (zix 4 h = none ∨ (za_t S k to = none ∧ za_p S k to = none) ∨ (act < 0 ∨ 7 < act) ∨ (act = 4 ∧ zix (z_N S 0) o = none)) → za_k S (za_p S k to) h = true → ((k = 0 ∧ ∃ t, t < z_N S 0 ∧ to = nI t ∧ za_t S k to = some t ∧ za_p S k to = none) ∨ (k = 1 ∧ ∃ q, q < z_N S 1 ∧ to = nI q ∧ za_t S k to = none ∧ za_p S k to = some q)) → wb_X7_ask_91 Q τ m h k to act n o := by
    intro hn hk hs
    rw [if_neg hn, if_neg (by rw [hk]; decide)] at kk
    by_cases h100 : z_N S 1 = 100
    · rw [if_pos h100] at kk
      unfold wb_X7_ask_91
      rw [show xh_I τ 457 m = nI (z_N S 1) from hR.1.2.2.2.1, h100]
      exact ⟨fun _ => kk τ hR, fun z => absurd rfl z⟩
    · rw [if_neg h100] at kk
      obtain ⟨a, x, rfl, rfl, hA⟩ := ak_of hJ.1 hn h100
      rw [cl40 (by have := hA.1; omega)] at kk
      exact m_ask2 hc hR hJ.1 hA hs kk
  have k74 : ¬ (zix 4 h = none ∨ (za_t S k to = none ∧ za_p S k to = none) ∨ (act < 0 ∨ 7 < act) ∨ (act = 4 ∧ zix (z_N S 0) o = none)) → ((k = 0 ∧ ∃ t, t < z_N S 0 ∧ to = nI t ∧ za_t S k to = some t ∧ za_p S k to = none) ∨ (k = 1 ∧ ∃ q, q < z_N S 1 ∧ to = nI q ∧ za_t S k to = none ∧ za_p S k to = some q)) → wb_X7_ask_74 Q τ m h k to act n o := by
    intro hn hs
    unfold wb_X7_ask_74
    refine ⟨fun k1 => ?_, fun n1 => ?_⟩
    · rcases hs with ⟨k0, -⟩ | ⟨k1, q, hq, e0, e1, e2⟩
      · rw [k0] at k1; exact absurd k1 (by decide)
      · have ek : za_k S (za_p S k to) h = decide (z_F S 9 q = h ∨ z_F S 10 q = h) := by rw [e2]; rfl
        rw [e0]
        refine m_isOf hR (by omega) (fun z => ⟨fun _ => ?_, fun y => absurd rfl y⟩) (fun z => ⟨fun y => absurd y (by decide), fun _ => ?_⟩)
        · rw [if_neg hn, if_pos (by rw [ek]; exact decide_eq_false z)] at kk
          exact kk τ hR
        · rw [← e0]
          exact full hn (by rw [ek]; exact decide_eq_true z) (Or.inr ⟨k1, q, hq, e0, e1, e2⟩)
    · rcases hs with ⟨k0, t, ht, e0, e1, e2⟩ | ⟨k1, -⟩
      · exact full hn (by rw [e2]; rfl) (Or.inl ⟨k0, t, ht, e0, e1, e2⟩)
      · exact absurd k1 n1
  have k30b : (za_t S k to = none ∧ za_p S k to = none) → wb_X7_ask_29 Q τ m h k to act n o := by
    intro z
    unfold wb_X7_ask_29 wb_X7_ask_30
    exact m_house (fun _ => ⟨fun _ => bad (Or.inr (Or.inl z)), fun y => absurd rfl y⟩) (fun i hi e1 e2 => ⟨fun y => absurd y (by decide), fun _ => ⟨fun _ => bad (Or.inr (Or.inl z)), fun y => absurd rfl y⟩⟩)
  have k30 : ((k = 0 ∧ ∃ t, t < z_N S 0 ∧ to = nI t ∧ za_t S k to = some t ∧ za_p S k to = none) ∨ (k = 1 ∧ ∃ q, q < z_N S 1 ∧ to = nI q ∧ za_t S k to = none ∧ za_p S k to = some q)) → wb_X7_ask_30 Q τ m h k to act n o 1 := by
    intro hs
    have ns : ¬ (za_t S k to = none ∧ za_p S k to = none) := by
      rintro ⟨y1, y2⟩
      rcases hs with ⟨k0, t, ht, e0, e1, e2⟩ | ⟨k1, q, hq, e0, e1, e2⟩
      · rw [e1] at y1; cases y1
      · rw [e2] at y2; cases y2
    unfold wb_X7_ask_30
    refine m_house (fun e => ⟨fun _ => bad (Or.inl e), fun y => absurd rfl y⟩) (fun i hi e1 e2 => ⟨fun y => absurd y (by decide), fun _ => ⟨fun y => absurd y (by decide), fun _ => ?_⟩⟩)
    have nh : ¬ zix 4 h = none := by rw [e2]; simp
    refine m_in (fun e => ⟨fun _ => bad (Or.inr (Or.inr (Or.inl e))), fun y => absurd rfl y⟩) (fun na => ⟨fun y => absurd y (by decide), fun _ => ?_⟩)
    refine ⟨fun e4 => ?_, fun n4 => ?_⟩
    · refine m_isThing hR (by omega) (fun e => ⟨fun _ => bad (Or.inr (Or.inr (Or.inr ⟨e4, e⟩))), fun y => absurd rfl y⟩) (fun u hu e5 e6 => ⟨fun y => absurd y (by decide), fun _ => ?_⟩)
      refine k74 (fun z => z.elim nh (fun z => z.elim ns (fun z => z.elim na (fun z => ?_)))) hs
      rw [e6] at z; exact absurd z.2 (by simp)
    · exact k74 (fun z => z.elim nh (fun z => z.elim ns (fun z => z.elim na (fun z => n4 z.1)))) hs
  unfold wp_X7_ask
  refine ⟨fun k0 => ?_, fun n0 => ⟨fun k1 => ?_, fun n1 => ?_⟩⟩
  · have ep : za_p S k to = none := by unfold za_p; rw [if_neg (by rw [k0]; decide)]
    have et : za_t S k to = zix (z_N S 0) to := by unfold za_t; rw [if_pos k0]
    refine m_isThing hR (by omega) (fun e => ?_) (fun t ht e1 e2 => ?_)
    · exact k30b ⟨by rw [et]; exact e, ep⟩
    · exact k30 (Or.inl ⟨k0, t, ht, e1, by rw [et]; exact e2, ep⟩)
  · have et : za_t S k to = none := by unfold za_t; rw [if_neg n0]
    have ep : za_p S k to = zix (z_N S 1) to := by unfold za_p; rw [if_pos k1]
    refine m_isPromise hR (by omega) (fun e => ⟨fun _ => ?_, fun y => absurd rfl y⟩) (fun q hq e1 e2 => ⟨fun y => absurd y (by decide), fun _ => ?_⟩)
    · exact k30b ⟨et, by rw [ep]; exact e⟩
    · exact k30 (Or.inr ⟨k1, q, hq, e1, et, by rw [ep]; exact e2⟩)
  · exact k30b ⟨by unfold za_t; rw [if_neg n0], by unfold za_p; rw [if_neg n1]⟩
