/-! THE REFERENCE'S SIDE: how its rows hold a state -/
def zDK (k : Nat) : Prop := (1 ≤ k ∧ k ≤ 20) ∨ (23 ≤ k ∧ k ≤ 26) ∨ k = 36
def zOI (o : Option Nat) : Int32 := match o with
  | none => -9
  | some t => nI t
def z_lk (l : zL) : Int32 := if l.1 = 3 then 1 else nI l.1
def z_lp (l : zL) : Int32 := if l.1 = 2 then -9 else nI l.2.1
def z_lb (l : zL) : Int32 := if l.1 = 3 then 1 else 0
def zRow (m : Nat) (τ : xS) (j w : Nat) (l : zL) : Prop :=
  xh_a τ (m + 27) j = z_lk l ∧ xh_a τ (m + 28) j = nI (w / 4) ∧ xh_a τ (m + 29) j = nI (w % 4) ∧ xh_a τ (m + 30) j = z_lp l ∧ xh_a τ (m + 31) j = zOI l.2.2.1 ∧ xh_a τ (m + 32) j = zOI l.2.2.2.1 ∧ xh_a τ (m + 33) j = l.2.2.2.2.1 ∧ xh_a τ (m + 34) j = l.2.2.2.2.2 ∧ xh_a τ (m + 35) j = z_lb l
/-- the fixed part, and the next free place -/
def yw7 (τ : xS) (m n : Nat) : Prop := xw7 τ m ∧ xh_n τ = n
theorem yw7_a {τ τ2 : xS} {m n a i : Nat} {v : Int32} (e : τ2 = xs_a τ a i v) (h : yw7 τ m n) : yw7 τ2 m n := by subst e; exact h
theorem yw7_I {τ τ2 : xS} {m n a i : Nat} {v : Int32} (e : τ2 = xs_I τ a i v) (h : yw7 τ m n) : yw7 τ2 m n := by subst e; exact h
theorem yw7_L {τ τ2 : xS} {m n a i : Nat} {v : Int64} (e : τ2 = xs_L τ a i v) (h : yw7 τ m n) : yw7 τ2 m n := by subst e; exact h
def zMd (m : Nat) (τ : xS) (S : zS) : Prop := (yw7 τ m (z_N S 9) ∧ xh_I τ 498 m = z_F S 40 0) ∧ (∀ k i, zDK k → xh_a τ (m + k) i = z_F S k i) ∧ xh_I τ 448 m = nI (z_N S 0) ∧ xh_I τ 457 m = nI (z_N S 1) ∧ xh_I τ 473 m = nI (z_N S 2) ∧ xh_I τ 493 m = z_u S ∧ xh_L τ 494 m = z_r S
def zMl (m : Nat) (τ : xS) (S : zS) (fl : List (Nat × zL)) : Prop := xh_I τ 478 m = nI fl.length ∧ (∀ j w l, fl[j]? = some (w, l) → w < 16 ∧ zRow m τ j w l) ∧ ∀ w, (fl.filter (fun e => e.1 == w)).map Prod.snd = z_W S w
def zMk (m : Nat) (τ : xS) (S : zS) (c : Nat) : Prop := ∃ (kb sn : Nat → Nat), (∀ p, xh_a τ (m + 21) p = nI (kb p) ∧ xh_a τ (m + 22) p = nI (sn p)) ∧ xh_I τ 472 m = nI c ∧
  (∀ t p, p ∈ z_H S t ↔ p < z_N S 1 ∧ z_F S 16 p = 1 ∧ kb p = t) ∧ (∀ t p, p ∈ z_Q S t ↔ p < z_N S 1 ∧ z_F S 16 p = 2 ∧ kb p = t) ∧
  (∀ t, (z_H S t).Pairwise (fun a b => sn a < sn b)) ∧ (∀ t, (z_Q S t).Pairwise (fun a b => sn a < sn b)) ∧ (∀ p, p < z_N S 1 → z_F S 16 p = 1 ∨ z_F S 16 p = 2 → sn p < c) ∧ (∀ p, kb p < 1000 ∧ (z_N S 1 ≤ p → z_F S 16 p = 0))
def zMq (m : Nat) (τ : xS) (S : zS) (k0 : Nat) : Prop := xh_I τ 489 m = nI (k0 + (z_D S).length) ∧ ∀ j p st v, (z_D S)[j]? = some (p, st, v) → xh_a τ (m + 37) (k0 + j) = nI p ∧ xh_a τ (m + 38) (k0 + j) = st ∧ xh_a τ (m + 39) (k0 + j) = v
def zRM (m : Nat) (τ : xS) (S : zS) (k0 c : Nat) : Prop := zMd m τ S ∧ (∃ fl, zMl m τ S fl) ∧ zMk m τ S c ∧ zMq m τ S k0
-- reading behind a store
theorem xa_ne {τ : xS} {m k k2 i j : Nat} {v : Int32} (h : k2 ≠ k) : xh_a (xs_a τ (m + k) i v) (m + k2) j = xh_a τ (m + k2) j := by
  show xu_2 (xh_a τ) (m + k) i v (m + k2) j = _
  unfold xu_2
  rw [if_neg (fun z => h (by omega))]
theorem xa_eq {τ : xS} {m k i j : Nat} {v : Int32} : xh_a (xs_a τ (m + k) i v) (m + k) j = if j = i then v else xh_a τ (m + k) j := by
  show xu_2 (xh_a τ) (m + k) i v (m + k) j = _
  unfold xu_2
  simp
theorem xI_eq {τ : xS} {f m g : Nat} {v : Int32} : xh_I (xs_I τ f m v) g m = if g = f then v else xh_I τ g m := by
  show xu_2 (xh_I τ) f m v g m = _
  unfold xu_2
  simp
theorem xI_ne {τ : xS} {f a g b : Nat} {v : Int32} (h : g ≠ f) : xh_I (xs_I τ f a v) g b = xh_I τ g b := by
  show xu_2 (xh_I τ) f a v g b = _
  unfold xu_2
  rw [if_neg (fun z => h z.1)]
theorem zF_eq {S : zS} {k i k2 j : Nat} {v : Int32} : z_F (zs_F S k i v) k2 j = if k2 = k ∧ j = i then v else z_F S k2 j := rfl
theorem zF_ne {S : zS} {k i k2 j : Nat} {v : Int32} (h : k2 ≠ k) : z_F (zs_F S k i v) k2 j = z_F S k2 j := by rw [zF_eq, if_neg (fun z => h z.1)]
-- the four parts look at these places alone
theorem zMl_congr {m : Nat} {τ τ2 : xS} {S S2 : zS} {fl : List (Nat × zL)} (h : zMl m τ S fl) (hc : ∀ k j, 27 ≤ k → k ≤ 35 → xh_a τ2 (m + k) j = xh_a τ (m + k) j) (hi : xh_I τ2 478 m = xh_I τ 478 m) (hw : z_W S2 = z_W S) : zMl m τ2 S2 fl := by
  obtain ⟨h1, h2, h3⟩ := h
  refine ⟨hi.trans h1, fun j w l hj => ⟨(h2 j w l hj).1, ?_⟩, by rw [hw]; exact h3⟩
  obtain ⟨a1, a2, a3, a4, a5, a6, a7, a8, a9⟩ := (h2 j w l hj).2
  refine ⟨?_, ?_, ?_, ?_, ?_, ?_, ?_, ?_, ?_⟩ <;> (rw [hc _ _ (by omega) (by omega)]; assumption)
theorem zMk_congr {m : Nat} {τ τ2 : xS} {S S2 : zS} {c : Nat} (h : zMk m τ S c) (h21 : ∀ j, xh_a τ2 (m + 21) j = xh_a τ (m + 21) j) (h22 : ∀ j, xh_a τ2 (m + 22) j = xh_a τ (m + 22) j) (hi : xh_I τ2 472 m = xh_I τ 472 m) (hH : z_H S2 = z_H S) (hQ : z_Q S2 = z_Q S) (hN : z_N S2 1 = z_N S 1) (hF : ∀ p, z_F S2 16 p = z_F S 16 p) : zMk m τ2 S2 c := by
  obtain ⟨kb, sn, h1, h2, h3, h4, h5, h6, h7, h8⟩ := h
  refine ⟨kb, sn, fun p => ?_, hi.trans h2, ?_, ?_, by rw [hH]; exact h5, by rw [hQ]; exact h6, by intro p; rw [hN, hF]; exact h7 p, by intro p; rw [hN, hF]; exact h8 p⟩
  · rw [h21, h22]; exact h1 p
  · intro t p; rw [hH, hN, hF]; exact h3 t p
  · intro t p; rw [hQ, hN, hF]; exact h4 t p
theorem zMq_congr {m : Nat} {τ τ2 : xS} {S S2 : zS} {k0 : Nat} (h : zMq m τ S k0) (hc : ∀ k j, 37 ≤ k → k ≤ 39 → xh_a τ2 (m + k) j = xh_a τ (m + k) j) (hi : xh_I τ2 489 m = xh_I τ 489 m) (hD : z_D S2 = z_D S) : zMq m τ2 S2 k0 := by
  obtain ⟨h1, h2⟩ := h
  refine ⟨by rw [hi, hD]; exact h1, fun j p st v hj => ?_⟩
  rw [hD] at hj
  rw [hc _ _ (by omega) (by omega), hc _ _ (by omega) (by omega), hc _ _ (by omega) (by omega)]
  exact h2 j p st v hj
/-- a number is stored -/
theorem m_F {m : Nat} {τ : xS} {S : zS} {k0 c k i : Nat} {v : Int32} (h : zRM m τ S k0 c) (hk : zDK k) (h16 : k ≠ 16) : zRM m (xs_a τ (m + k) i v) (zs_F S k i v) k0 c := by
  obtain ⟨⟨d1, d2, d3⟩, ⟨fl, hl⟩, hkk, hq⟩ := h
  have hkk2 : k ≠ 21 ∧ k ≠ 22 ∧ (∀ j, 27 ≤ j → j ≤ 35 → j ≠ k) ∧ (∀ j, 37 ≤ j → j ≤ 39 → j ≠ k) := by
    unfold zDK at hk
    refine ⟨by omega, by omega, fun j _ _ => by omega, fun j _ _ => by omega⟩
  refine ⟨⟨⟨yw7_a rfl d1.1, d1.2.trans (zF_ne (by unfold zDK at hk; omega)).symm⟩, fun k2 j hk2 => ?_, d3⟩, ⟨fl, zMl_congr hl (fun k2 j h1 h2 => xa_ne (hkk2.2.2.1 k2 h1 h2)) rfl rfl⟩, zMk_congr hkk (fun j => xa_ne (Ne.symm hkk2.1)) (fun j => xa_ne (Ne.symm hkk2.2.1)) rfl rfl rfl rfl (fun p => zF_ne (Ne.symm h16)), zMq_congr hq (fun k2 j h1 h2 => xa_ne (hkk2.2.2.2 k2 h1 h2)) rfl rfl⟩
  by_cases e : k2 = k
  · subst e
    rw [xa_eq, zF_eq]
    by_cases e2 : j = i
    · simp [e2]
    · simp [e2, d2 k2 j hk2]
  · rw [xa_ne e, zF_ne e]; exact d2 k2 j hk2
/-- a number of the reference's own that no state knows -/
theorem m_I {m : Nat} {τ : xS} {S : zS} {k0 c f : Nat} {v : Int32} (h : zRM m τ S k0 c) (hf : 495 ≤ f ∧ f ≠ 498) : zRM m (xs_I τ f m v) S k0 c := by
  obtain ⟨⟨d1, d2, d3, d4, d5, d6, d7⟩, ⟨fl, hl⟩, hkk, hq⟩ := h
  refine ⟨⟨⟨yw7_I rfl d1.1, by rw [xI_ne (by omega)]; exact d1.2⟩, d2, ?_, ?_, ?_, ?_, d7⟩, ⟨fl, zMl_congr hl (fun _ _ _ _ => rfl) (xI_ne (by omega)) rfl⟩, zMk_congr hkk (fun _ => rfl) (fun _ => rfl) (xI_ne (by omega)) rfl rfl rfl (fun _ => rfl), zMq_congr hq (fun _ _ _ _ => rfl) (xI_ne (by omega)) rfl⟩
  · rw [xI_ne (by omega)]; exact d3
  · rw [xI_ne (by omega)]; exact d4
  · rw [xI_ne (by omega)]; exact d5
  · rw [xI_ne (by omega)]; exact d6
theorem m_u {m : Nat} {τ : xS} {S : zS} {k0 c : Nat} {v : Int32} (h : zRM m τ S k0 c) : zRM m (xs_I τ 493 m v) (zs_u S v) k0 c := by
  obtain ⟨⟨d1, d2, d3, d4, d5, d6, d7⟩, ⟨fl, hl⟩, hkk, hq⟩ := h
  refine ⟨⟨⟨yw7_I rfl d1.1, by rw [xI_ne (by omega)]; exact d1.2⟩, d2, ?_, ?_, ?_, ?_, d7⟩, ⟨fl, zMl_congr hl (fun _ _ _ _ => rfl) (xI_ne (by omega)) rfl⟩, zMk_congr hkk (fun _ => rfl) (fun _ => rfl) (xI_ne (by omega)) rfl rfl rfl (fun _ => rfl), zMq_congr hq (fun _ _ _ _ => rfl) (xI_ne (by omega)) rfl⟩
  · rw [xI_ne (by omega)]; exact d3
  · rw [xI_ne (by omega)]; exact d4
  · rw [xI_ne (by omega)]; exact d5
  · rw [xI_eq]; rfl
theorem m_r {m : Nat} {τ : xS} {S : zS} {k0 c : Nat} {v : Int64} (h : zRM m τ S k0 c) : zRM m (xs_L τ 494 m v) (zs_r S v) k0 c := by
  obtain ⟨⟨d1, d2, d3, d4, d5, d6, d7⟩, ⟨fl, hl⟩, hkk, hq⟩ := h
  refine ⟨⟨⟨yw7_L rfl d1.1, d1.2⟩, d2, d3, d4, d5, d6, ?_⟩, ⟨fl, zMl_congr hl (fun _ _ _ _ => rfl) rfl rfl⟩, zMk_congr hkk (fun _ => rfl) (fun _ => rfl) rfl rfl rfl rfl (fun _ => rfl), zMq_congr hq (fun _ _ _ _ => rfl) rfl rfl⟩
  show xu_2 (xh_L τ) 494 m v 494 m = _
  simp [xu_2]; rfl
/-- the message of p is neither held nor waits any more -/
theorem m_w {m : Nat} {τ : xS} {S : zS} {k0 c p : Nat} {v : Int32} (h : zRM m τ S k0 c) (hp : p < z_N S 1) (hv1 : ¬ v = 1) (hv2 : ¬ v = 2) : zRM m (xs_a τ (m + 16) p v) (z_w S p v) k0 c := by
  obtain ⟨⟨d1, d2, d3⟩, ⟨fl, hl⟩, ⟨kb, sn, h1, h2, h3, h4, h5, h6, h7, h8⟩, hq⟩ := h
  have hF : ∀ k j, z_F (z_w S p v) k j = if k = 16 ∧ j = p then v else z_F S k j := fun k j => rfl
  refine ⟨⟨⟨yw7_a rfl d1.1, d1.2⟩, fun k2 j hk2 => ?_, d3⟩, ⟨fl, zMl_congr hl (fun k2 j a b => xa_ne (by omega)) rfl rfl⟩, ⟨kb, sn, fun q => ?_, h2, fun t q => ?_, fun t q => ?_, fun t => (h5 t).filter _, fun t => (h6 t).filter _, fun q hq1 hq2 => ?_, fun q => ⟨(h8 q).1, fun hq1 => by rw [hF, if_neg (fun z => by have hq2 : z_N S 1 ≤ q := hq1; omega)]; exact (h8 q).2 hq1⟩⟩, zMq_congr hq (fun k2 j a b => xa_ne (by omega)) rfl rfl⟩
  · rw [hF]
    by_cases e : k2 = 16
    · subst e
      rw [xa_eq]
      by_cases e2 : j = p
      · simp [e2]
      · simp [e2, d2 16 j hk2]
    · rw [xa_ne e]; simp [e, d2 k2 j hk2]
  · rw [xa_ne (by omega), xa_ne (by omega)]; exact h1 q
  · show q ∈ (z_H S t).filter _ ↔ _
    rw [List.mem_filter, h3 t q, hF]
    by_cases e : q = p
    · simp [e, hv1]
    · simp [e]
      exact fun _ _ => Iff.rfl
  · show q ∈ (z_Q S t).filter _ ↔ _
    rw [List.mem_filter, h4 t q, hF]
    by_cases e : q = p
    · simp [e, hv2]
    · simp [e]
      exact fun _ _ => Iff.rfl
  · rw [hF] at hq2
    by_cases e : q = p
    · simp [e, hv1, hv2] at hq2
    · simp [e] at hq2
      exact h7 q hq1 hq2
