/-! The calls of the two, over the state -/
theorem i_nat {v : Int32} (h : ¬ v < 0) : v = nI v.toInt.toNat ∧ v.toInt.toNat < 2 ^ 31 := by
  rw [Int32.lt_iff_toInt_lt, show (0 : Int32).toInt = 0 from rfl] at h
  have h2 := Int32.toInt_lt v
  refine ⟨?_, by omega⟩
  apply Int32.toInt_inj.mp
  rw [nI_toInt (by omega)]
  omega
/-- a number that must be below N -/
def zix (N : Nat) (v : Int32) : Option Nat := if v < 0 ∨ nI N ≤ v then none else some v.toNatClampNeg
theorem ix_nI {N t : Nat} (h : t < N) (hN : N < 2 ^ 31 := by omega) : zix N (nI t) = some t := by
  unfold zix
  rw [if_neg, nI_clamp (by omega)]
  rintro (z | z)
  · rw [← nI_0, nI_ltI (by omega) (by omega)] at z; omega
  · rw [nI_leI (by omega) (by omega)] at z; omega
theorem ix_some {N t : Nat} {v : Int32} (h : zix N v = some t) (hN : N < 2 ^ 31 := by omega) : t < N ∧ v = nI t := by
  unfold zix at h
  split at h
  · cases h
  · rename_i hn
    obtain ⟨e, hlt⟩ := i_nat (v := v) (fun z => hn (Or.inl z))
    have h1 : ¬ nI N ≤ v := fun z => hn (Or.inr z)
    generalize v.toInt.toNat = u at e hlt
    subst e
    rw [nI_clamp hlt] at h
    cases h
    rw [nI_leI hN hlt] at h1
    exact ⟨by omega, rfl⟩
theorem ix_none {N : Nat} {v : Int32} : zix N v = none ↔ v < 0 ∨ nI N ≤ v := by
  unfold zix
  split
  · rename_i h; exact ⟨fun _ => h, fun _ => rfl⟩
  · rename_i h; exact ⟨fun z => (by cases z), fun z => absurd z h⟩
theorem ix_cases {N : Nat} {v : Int32} {P : Prop} (h0 : zix N v = none → P) (h1 : ∀ t, t < N → v = nI t → zix N v = some t → P) (hN : N < 2 ^ 31 := by omega) : P := by
  cases e : zix N v with
  | none => exact h0 e
  | some t =>
    obtain ⟨a, b⟩ := ix_some e hN
    exact h1 t a b e
theorem ipred_lt {N : Nat} {v : Int32} (hN : N < 1000) : nI N - 1 < v ↔ nI N ≤ v := by
  cases N with
  | zero =>
    rw [nI_0, Int32.lt_iff_toInt_lt, Int32.le_iff_toInt_le, show ((0 : Int32) - 1).toInt = -1 from rfl, show (0 : Int32).toInt = 0 from rfl]
    omega
  | succ k =>
    rw [nI_pred1 (by omega), Int32.lt_iff_toInt_lt, Int32.le_iff_toInt_le, nI_toInt (by omega), nI_toInt (by omega)]
    omega
theorem m_ix {τ : xS} {N : Nat} {v : Int32} {Q : Int32 → Prop} (hN : N < 1000) (k0 : zix N v = none → Q 0) (k1 : ∀ t, t < N → v = nI t → zix N v = some t → Q 1) : wp_X7_in τ v 0 (nI N - 1) Q := by
  refine m_in (fun z => k0 (ix_none.mpr ?_)) (fun z => ?_)
  · rw [ipred_lt hN] at z; exact z
  · rw [ipred_lt hN] at z
    exact ix_cases (N := N) (fun e => absurd (ix_none.mp e) z) k1
theorem m_isThing {m : Nat} {τ : xS} {S : zS} {k0 c : Nat} {v : Int32} {Q : Int32 → Prop} (hR : zRM m τ S k0 c) (hN : z_N S 0 < 1000) (h0 : zix (z_N S 0) v = none → Q 0) (h1 : ∀ t, t < z_N S 0 → v = nI t → zix (z_N S 0) v = some t → Q 1) : wp_X7_isThing τ m v Q := by
  unfold wp_X7_isThing
  rw [show xh_I τ 448 m = nI (z_N S 0) from hR.1.2.2.1]
  exact m_ix hN (fun e => ⟨Or.inl rfl, h0 e⟩) (fun t a b e => ⟨Or.inr rfl, h1 t a b e⟩)
theorem m_isPromise {m : Nat} {τ : xS} {S : zS} {k0 c : Nat} {v : Int32} {Q : Int32 → Prop} (hR : zRM m τ S k0 c) (hN : z_N S 1 < 1000) (h0 : zix (z_N S 1) v = none → Q 0) (h1 : ∀ t, t < z_N S 1 → v = nI t → zix (z_N S 1) v = some t → Q 1) : wp_X7_isPromise τ m v Q := by
  unfold wp_X7_isPromise
  rw [show xh_I τ 457 m = nI (z_N S 1) from hR.1.2.2.2.1]
  exact m_ix hN (fun e => ⟨Or.inl rfl, h0 e⟩) (fun t a b e => ⟨Or.inr rfl, h1 t a b e⟩)
theorem m_house {τ : xS} {v : Int32} {Q : Int32 → Prop} (k0 : zix 4 v = none → Q 0) (k1 : ∀ t, t < 4 → v = nI t → zix 4 v = some t → Q 1) : wp_X7_in τ v 0 3 Q := by
  have := m_ix (τ := τ) (N := 4) (v := v) (Q := Q) (by omega) k0 k1
  rwa [nI_pred1 (by omega)] at this
theorem m_houses {τ : xS} {a b : Int32} {Q : Int32 → Prop} (k0 : zix 4 a = none ∨ zix 4 b = none → Q 0) (k1 : ∀ i j, i < 4 → j < 4 → a = nI i → b = nI j → zix 4 a = some i → zix 4 b = some j → Q 1) : wp_X7_areHouses τ a b Q := by
  unfold wp_X7_areHouses
  refine m_house (fun e => ⟨fun _ => ⟨Or.inl rfl, k0 (Or.inl e)⟩, fun z => absurd rfl z⟩) (fun i hi e1 e2 => ⟨fun z => absurd z (by decide), fun _ => ?_⟩)
  refine m_house (fun e => ⟨fun _ => ⟨Or.inl rfl, k0 (Or.inr e)⟩, fun z => absurd rfl z⟩) (fun j hj e3 e4 => ⟨fun z => absurd z (by decide), fun _ => ?_⟩)
  exact ⟨Or.inr rfl, k1 i j hi hj e1 e3 e2 e4⟩
/-- what holds between the calls -/
def zJ (S : zS) : Prop := zI S ∧ z_D S = [] ∧ zK S
def zJN (S S2 : zS) : Prop := zJ S2 ∧ z_N S2 9 = z_N S 9
-- thing, guard
abbrev zmb (k n : Int32) : Prop := k = 0 ∨ k = 2 ∨ (k = 1 ∧ 0 ≤ n) ∨ ((k = 5 ∨ k = 6) ∧ 1 ≤ n ∧ n ≤ 20)
def zo_thing (S : zS) (h k n : Int32) : Int32 × zS := if zix 4 h = none ∨ ¬ zmb k n then (-1, S) else if z_N S 0 = 40 then (-3, S) else (nI (z_N S 0), z_new S h k n (-9) 0)
theorem J_new {S : zS} {h k : Nat} {n a : Int32} {g : Option Nat} (hJ : zJ S) (hN : z_N S 0 < 40) (hh : h < 4) (hk : k ≤ 6) (hg1 : k = 3 ∨ k = 4 → ∃ t, t < z_N S 0 ∧ g = some t) (hg2 : ¬ (k = 3 ∨ k = 4) → g = none) : zJN S (z_new S (nI h) (nI k) n (zOI g) a) :=
  ⟨⟨I_new hJ.1 hN hh hk hg1 hg2, hJ.2.1, K_new hJ.1 hJ.2.2⟩, rfl⟩
theorem zJN.rf {S : zS} (h : zJ S) : zJN S S := ⟨h, rfl⟩
theorem J_thing {S : zS} {h k n : Int32} (hJ : zJ S) : zJN S (zo_thing S h k n).2 := by
  have b := hJ.1.1.1
  unfold zo_thing
  split
  · exact zJN.rf hJ
  · rename_i hn
    split
    · exact zJN.rf hJ
    · rename_i h40
      have hm : zmb k n := Classical.byContradiction (fun z => hn (Or.inr z))
      have : ∃ a, a < 4 ∧ h = nI a := ix_cases (N := 4) (v := h) (fun e => absurd (Or.inl e) hn) (fun t a b _ => ⟨t, a, b⟩)
      obtain ⟨a, ha, rfl⟩ := this
      have key : ∀ i : Nat, i ≤ 6 → ¬ (i = 3 ∨ i = 4) → k = nI i → zJN S (z_new S (nI a) k n (-9) 0) := fun i h1 h2 e => by
        subst e
        exact J_new (g := none) hJ (by omega) ha h1 (fun z => absurd z h2) (fun _ => rfl)
      rcases hm with e | e | ⟨e, -⟩ | ⟨e | e, -⟩
      · exact key 0 (by omega) (by omega) e
      · exact key 2 (by omega) (by omega) e
      · exact key 1 (by omega) (by omega) e
      · exact key 5 (by omega) (by omega) e
      · exact key 6 (by omega) (by omega) e
theorem m_thing {m : Nat} {τ : xS} {S : zS} {c : Nat} {h k n : Int32} {Q : Int32 → xS → Prop} (hR : zRM m τ S 0 c) (hJ : zJ S) (kk : ∀ τ2, zRM m τ2 (zo_thing S h k n).2 0 c → Q (zo_thing S h k n).1 τ2) : wp_X7_thing τ m h k n Q := by
  have b := hJ.1.1.1
  unfold zo_thing at kk
  have bad : ¬ zmb k n → wb_X7_thing_43 Q τ m h k n := by
    intro hm
    rw [if_pos (Or.inr hm)] at kk
    refine m_house (fun e => ⟨fun _ => kk τ hR, fun z => absurd rfl z⟩) (fun i hi e1 e2 => ⟨fun z => absurd z (by decide), fun _ => ⟨fun _ => kk τ hR, fun z => absurd rfl z⟩⟩)
  have good : zmb k n → wb_X7_thing_39 Q τ m h k n := by
    intro hm
    refine m_house (fun e => ⟨fun _ => ?_, fun z => absurd rfl z⟩) (fun i hi e1 e2 => ⟨fun z => absurd z (by decide), fun _ => ⟨fun z => absurd z (by decide), fun _ => ?_⟩⟩)
    · rw [if_pos (Or.inl e)] at kk
      exact kk τ hR
    · rw [if_neg (fun z => z.elim (fun z => by rw [e2] at z; cases z) (fun z => z hm))] at kk
      rw [show xh_I τ 448 m = nI (z_N S 0) from hR.1.2.2.1, show (40 : Int32) = nI 40 from rfl, nI_eq (by omega) (by omega)]
      refine ⟨fun z => ?_, fun z => ?_⟩
      · rw [if_pos z] at kk
        exact kk τ hR
      · rw [if_neg z] at kk
        exact m_comes hR (by omega) (fun τ2 R2 _ => kk τ2 R2)
  unfold wp_X7_thing
  have h29 : (k = 5 ∨ k = 6) → ¬ k = 0 → ¬ k = 2 → wb_X7_thing_29 Q τ m h k n := by
    intro h56 h0 h2
    have h1 : ¬ k = 1 := by rcases h56 with e | e <;> rw [e] <;> decide
    refine m_in (fun z => ⟨fun _ => bad ?_, fun y => absurd rfl y⟩) (fun z => ⟨fun y => absurd y (by decide), fun _ => good ?_⟩)
    · rintro (e | e | ⟨e, -⟩ | ⟨-, e1, e2⟩)
      · exact h0 e
      · exact h2 e
      · exact h1 e
      · rcases z with z | z
        · exact (ile_nlt.mp e1) z
        · exact (ile_nlt.mp e2) z
    · exact Or.inr (Or.inr (Or.inr ⟨h56, ile_nlt.mpr (fun y => z (Or.inl y)), ile_nlt.mpr (fun y => z (Or.inr y))⟩))
  have h18 : ¬ k = 0 → ¬ k = 2 → ¬ (k = 1 ∧ 0 ≤ n) → wb_X7_thing_18 Q τ m h k n := by
    intro h0 h2 h1
    refine ⟨fun e => h29 (Or.inl e) h0 h2, fun n5 => ⟨fun e => h29 (Or.inr e) h0 h2, fun n6 => bad ?_⟩⟩
    rintro (e | e | e | ⟨e | e, -⟩)
    · exact h0 e
    · exact h2 e
    · exact h1 e
    · exact n5 e
    · exact n6 e
  refine ⟨fun e => good (Or.inl e), fun n0 => ⟨fun e => good (Or.inr (Or.inl e)), fun n2 => ⟨fun e => ⟨fun z => good (Or.inr (Or.inr (Or.inl ⟨e, z⟩))), fun z => h18 n0 n2 (fun y => z y.2)⟩, fun n1 => h18 n0 n2 (fun y => n1 y.1)⟩⟩⟩
def zo_guard (S : zS) (h t a tk : Int32) : Int32 × zS := if zix 4 h = none ∨ zix (z_N S 0) t = none ∨ a < 0 ∨ 255 < a then (-1, S) else if z_N S 0 = 40 then (-3, S) else (nI (z_N S 0), z_new S h (if tk = 0 then 3 else 4) 0 t a)
theorem J_guard {S : zS} {h t a tk : Int32} (hJ : zJ S) : zJN S (zo_guard S h t a tk).2 := by
  have b := hJ.1.1.1
  unfold zo_guard
  split
  · exact zJN.rf hJ
  · rename_i hn
    split
    · exact zJN.rf hJ
    · rename_i h40
      have : ∃ a, a < 4 ∧ h = nI a := ix_cases (N := 4) (v := h) (fun e => absurd (Or.inl e) hn) (fun t a b _ => ⟨t, a, b⟩)
      obtain ⟨i, hi, rfl⟩ := this
      have : ∃ a, a < z_N S 0 ∧ t = nI a := ix_cases (N := z_N S 0) (v := t) (fun e => absurd (Or.inr (Or.inl e)) hn) (fun t a b _ => ⟨t, a, b⟩)
      obtain ⟨u, hu, rfl⟩ := this
      show zJN S (z_new S (nI i) (if tk = 0 then 3 else 4) 0 (zOI (some u)) a)
      split
      · exact J_new (k := 3) (g := some u) hJ (by omega) hi (by omega) (fun _ => ⟨u, hu, rfl⟩) (fun z => absurd (by omega) z)
      · exact J_new (k := 4) (g := some u) hJ (by omega) hi (by omega) (fun _ => ⟨u, hu, rfl⟩) (fun z => absurd (by omega) z)
theorem m_guardOp {m : Nat} {τ : xS} {S : zS} {c : Nat} {h t a tk : Int32} {Q : Int32 → xS → Prop} (hR : zRM m τ S 0 c) (hJ : zJ S) (kk : ∀ τ2, zRM m τ2 (zo_guard S h t a tk).2 0 c → Q (zo_guard S h t a tk).1 τ2) : wp_X7_guard τ m h t a tk Q := by
  have b := hJ.1.1.1
  unfold zo_guard at kk
  have bad : (zix 4 h = none ∨ zix (z_N S 0) t = none ∨ a < 0 ∨ 255 < a) → wb_X7_guard_28 Q τ m := by
    intro hm
    rw [if_pos hm] at kk
    exact kk τ hR
  unfold wp_X7_guard
  refine m_house (fun e => ⟨fun _ => bad (Or.inl e), fun z => absurd rfl z⟩) (fun i hi e1 e2 => ⟨fun z => absurd z (by decide), fun _ => ?_⟩)
  refine m_isThing hR (by omega) (fun e => ⟨fun _ => bad (Or.inr (Or.inl e)), fun z => absurd rfl z⟩) (fun u hu e3 e4 => ⟨fun z => absurd z (by decide), fun _ => ?_⟩)
  refine m_in (fun e => ⟨fun _ => bad (Or.inr (Or.inr e)), fun z => absurd rfl z⟩) (fun e5 => ⟨fun z => absurd z (by decide), fun _ => ?_⟩)
  rw [if_neg (fun z => z.elim (fun z => by rw [e2] at z; cases z) (fun z => z.elim (fun z => by rw [e4] at z; cases z) e5))] at kk
  rw [show xh_I τ 448 m = nI (z_N S 0) from hR.1.2.2.1, show (40 : Int32) = nI 40 from rfl, nI_eq (by omega) (by omega)]
  refine ⟨fun z => ?_, fun z => ?_⟩
  · rw [if_pos z] at kk
    exact kk τ hR
  · rw [if_neg z] at kk
    refine ⟨fun y => ?_, fun y => ?_⟩
    · rw [if_pos y] at kk
      exact m_comes hR (by omega) (fun τ2 R2 _ => kk τ2 R2)
    · rw [if_neg y] at kk
      exact m_comes hR (by omega) (fun τ2 R2 _ => kk τ2 R2)
-- shut, back
def zo_shut (S : zS) (t is : Int32) : Int32 × zS := match zix (z_N S 0) t with
  | none => (-1, S)
  | some u => if z_F S 2 u = 3 ∨ z_F S 2 u = 4 then (if z_F S 6 u = 0 then 0 else 1, zs_F S 6 u is) else (-1, S)
theorem I_6 {S : zS} {i : Nat} {v : Int32} (h : zI S) : zI (zs_F S 6 i v) := h
theorem I_7 {S : zS} {i : Nat} {v : Int32} (h : zI S) : zI (zs_F S 7 i v) := h
theorem J_shut {S : zS} {t is : Int32} (hJ : zJ S) : zJN S (zo_shut S t is).2 := by
  unfold zo_shut
  split
  · exact zJN.rf hJ
  · split
    · exact ⟨⟨I_6 hJ.1, hJ.2.1, hJ.2.2.kh (kh_F (k := 6))⟩, rfl⟩
    · exact zJN.rf hJ
theorem m_shutOp {m : Nat} {τ : xS} {S : zS} {c : Nat} {t is : Int32} {Q : Int32 → xS → Prop} (hR : zRM m τ S 0 c) (hJ : zJ S) (his : is = 0 ∨ is = 1) (kk : ∀ τ2, zRM m τ2 (zo_shut S t is).2 0 c → Q (zo_shut S t is).1 τ2) : wp_X7_shut τ m t is Q := by
  have b := hJ.1.1.1
  unfold zo_shut at kk
  unfold wp_X7_shut
  refine m_isThing hR (by omega) (fun e => ⟨fun _ => ?_, fun z => absurd rfl z⟩) (fun u hu e1 e2 => ⟨fun z => absurd z (by decide), fun _ => ?_⟩)
  · rw [e] at kk; exact kk τ hR
  · rw [e2] at kk
    subst e1
    have hv : vp_in (nI u) 40 := vpI (by omega)
    have k30 : (z_F S 2 u = 3 ∨ z_F S 2 u = 4) → wb_X7_shut_30 Q τ m (nI u) is := by
      intro h34
      have kk2 : ∀ τ2, zRM m τ2 (zs_F S 6 u is) 0 c → Q (if z_F S 6 u = 0 then 0 else 1) τ2 := by
        simp only [if_pos h34] at kk
        exact kk
      unfold wb_X7_shut_30 wb_X7_shut_44
      rw [cl40 (by omega), rdF hR (k := 6)]
      refine ⟨hv, fun z => ⟨hv, his, fun τ2 e => ?_⟩, fun z => ⟨hv, his, fun τ2 e => ?_⟩⟩
      · rw [if_pos z] at kk2
        exact kk2 τ2 (m_F2 hR e)
      · rw [if_neg z] at kk2
        exact kk2 τ2 (m_F2 hR e)
    rw [cl40 (by omega), rdF hR (k := 2)]
    refine ⟨hv, fun e3 => k30 (Or.inl e3), fun n3 => ⟨hv, fun e4 => k30 (Or.inr e4), fun n4 => ?_⟩⟩
    simp only [if_neg (show ¬ (z_F S 2 u = 3 ∨ z_F S 2 u = 4) from fun z => z.elim n3 n4)] at kk
    exact kk τ hR
def zo_back (S : zS) (t : Int32) : Int32 × zS := match zix (z_N S 0) t with
  | none => (-1, S)
  | some u => if z_F S 2 u = 4 then (if z_F S 7 u = 0 then 1 else 0, zs_F S 7 u 1) else (-1, S)
theorem J_back {S : zS} {t : Int32} (hJ : zJ S) : zJN S (zo_back S t).2 := by
  unfold zo_back
  split
  · exact zJN.rf hJ
  · split
    · exact ⟨⟨I_7 hJ.1, hJ.2.1, hJ.2.2.kh (kh_F (k := 7))⟩, rfl⟩
    · exact zJN.rf hJ
theorem m_backOp {m : Nat} {τ : xS} {S : zS} {c : Nat} {t : Int32} {Q : Int32 → xS → Prop} (hR : zRM m τ S 0 c) (hJ : zJ S) (kk : ∀ τ2, zRM m τ2 (zo_back S t).2 0 c → Q (zo_back S t).1 τ2) : wp_X7_back τ m t Q := by
  have b := hJ.1.1.1
  unfold zo_back at kk
  unfold wp_X7_back
  refine m_isThing hR (by omega) (fun e => ⟨fun _ => ?_, fun z => absurd rfl z⟩) (fun u hu e1 e2 => ⟨fun z => absurd z (by decide), fun _ => ?_⟩)
  · rw [e] at kk; exact kk τ hR
  · rw [e2] at kk
    subst e1
    have hv : vp_in (nI u) 40 := vpI (by omega)
    unfold wb_X7_back_34
    rw [cl40 (by omega), rdF hR (k := 2), rdF hR (k := 7)]
    refine ⟨hv, fun e4 => ⟨hv, fun z => ⟨hv, fun τ2 e => ?_⟩, fun z => ⟨hv, fun τ2 e => ?_⟩⟩, fun n4 => ?_⟩
    · simp only [if_pos e4, if_pos z] at kk
      exact kk τ2 (m_F2 hR e)
    · simp only [if_pos e4, if_neg z] at kk
      exact kk τ2 (m_F2 hR e)
    · simp only [if_neg n4] at kk
      exact kk τ hR
-- wake
def zo_wake (S : zS) (t n : Int32) : Int32 × zS := match zix (z_N S 0) t with
  | none => (-1, S)
  | some u => if z_F S 2 u = 6 then (z_F S 8 u, z_all 1000 (z_free S u n)) else (-1, S)
theorem J_wake {S : zS} {t n : Int32} (hJ : zJ S) : zJN S (zo_wake S t n).2 := by
  have b := hJ.1.1.1
  unfold zo_wake
  split
  · exact zJN.rf hJ
  · rename_i u e
    split
    · have ht := (ix_some e).1
      obtain ⟨g1, g2, g3, g4, g5⟩ := I_free (v := n) hJ.1 ht
      have g := I_all 1000 _ g1 (by omega)
      refine ⟨⟨g.1, g.2.1, (K_free hJ.1 hJ.2.2 ht).kh (kh_all 1000 _ g1)⟩, ?_⟩
      exact (kp_all 1000 _).2.1.trans (by rw [g2])
    · exact zJN.rf hJ
theorem m_wakeOp {m : Nat} {τ : xS} {S : zS} {c : Nat} {t n : Int32} {Q : Int32 → xS → Prop} (hc : c + 1 < 2 ^ 31) (hR : zRM m τ S 0 c) (hJ : zJ S) (kk : ∀ τ2, zRM m τ2 (zo_wake S t n).2 0 c → Q (zo_wake S t n).1 τ2) : wp_X7_wake τ m t n Q := by
  have b := hJ.1.1.1
  unfold zo_wake at kk
  unfold wp_X7_wake
  refine m_isThing hR (by omega) (fun e => ⟨fun _ => ?_, fun z => absurd rfl z⟩) (fun u hu e1 e2 => ⟨fun z => absurd z (by decide), fun _ => ?_⟩)
  · rw [e] at kk; exact kk τ hR
  · rw [e2] at kk
    subst e1
    have hv : vp_in (nI u) 40 := vpI (by omega)
    rw [cl40 (by omega), rdF hR (k := 2)]
    refine ⟨hv, fun e6 => ?_, fun n6 => ?_⟩
    · simp only [if_pos e6] at kk
      obtain ⟨g1, -⟩ := I_free (v := n) hJ.1 hu
      exact m_answersAll (by omega) hR hJ.1 hu (fun τ2 R2 => m_doesAll (by omega) R2 g1 (fun τ3 R3 => kk τ3 R3))
    · simp only [if_neg n6] at kk
      exact kk τ hR
