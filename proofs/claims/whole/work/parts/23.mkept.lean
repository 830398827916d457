/-- what is to be done comes behind the rest -/
theorem m_due {m : Nat} {τ : xS} {S : zS} {k0 c p : Nat} {st v : Int32} {Q : xS → Prop} (h : zRM m τ S k0 c) (hb : k0 + (z_D S).length < 400) (k : ∀ τ2, zRM m τ2 (z_due S p st v) k0 c → Q τ2) : wp_X7_isToBeDone τ m (nI p) st v Q := by
  obtain ⟨⟨d1, d2, d3⟩, ⟨fl, hl⟩, hkk, ⟨q1, q2⟩⟩ := h
  have hj : (nI (k0 + (z_D S).length)).toNatClampNeg = k0 + (z_D S).length := nI_clamp (by omega)
  have hv2 : vp_in (xh_I τ 489 m) 400 := by rw [q1]; exact vpI hb
  unfold wp_X7_isToBeDone
  refine ⟨hv2, ?_⟩
  intro τ1 e1
  obtain ⟨I1, L1, W1, A1⟩ := st_a e1
  have H1 : xh_I τ1 = xh_I τ := I1
  refine ⟨by rw [H1]; exact hv2, ?_⟩
  intro τ2 e2
  obtain ⟨I2, L2, W2, A2⟩ := st_a e2
  have H2 : xh_I τ2 = xh_I τ := I2.trans H1
  refine ⟨by rw [H2]; exact hv2, ?_⟩
  intro τ3 e3
  obtain ⟨I3, L3, W3, A3⟩ := st_a e3
  have H3 : xh_I τ3 = xh_I τ := I3.trans H2
  intro τ4 e4
  obtain ⟨A4, L4, W4, I4⟩ := st_I e4
  refine k _ ?_
  simp only [q1, hj, H1, H2, H3] at A1 A2 A3 I4
  have hA : ∀ k j, xh_a τ4 (m + k) j = if k = 39 ∧ j = k0 + (z_D S).length then v else if k = 38 ∧ j = k0 + (z_D S).length then st else if k = 37 ∧ j = k0 + (z_D S).length then nI p else xh_a τ (m + k) j := by
    intro k j
    rw [A4, A3, A2, A1]
  have hout : ∀ k j, k < 37 → xh_a τ4 (m + k) j = xh_a τ (m + k) j := by
    intro k j hk
    rw [hA]
    repeat rw [if_neg (by omega)]
  have hI : ∀ g, g ≠ 489 → xh_I τ4 g m = xh_I τ g m := fun g hg => by rw [I4, if_neg hg]
  refine ⟨⟨⟨W4 (W3 (W2 (W1 d1.1))), by rw [hI _ (by omega)]; exact d1.2⟩, fun k j hk => ?_, ?_, ?_, ?_, ?_, ?_⟩, ⟨fl, zMl_congr hl (fun k j a b => hout k j (by omega)) (hI _ (by omega)) rfl⟩, zMk_congr hkk (fun j => hout 21 j (by omega)) (fun j => hout 22 j (by omega)) (hI _ (by omega)) rfl rfl rfl (fun _ => rfl), ?_, ?_⟩
  · rw [hout k j (by unfold zDK at hk; omega)]; exact d2 k j hk
  · rw [hI _ (by omega)]; exact d3.1
  · rw [hI _ (by omega)]; exact d3.2.1
  · rw [hI _ (by omega)]; exact d3.2.2.1
  · rw [hI _ (by omega)]; exact d3.2.2.2.1
  · rw [L4, L3, L2, L1]; exact d3.2.2.2.2
  · show xh_I τ4 489 m = nI (k0 + (z_D S ++ [(p, st, v)]).length)
    rw [I4, if_pos rfl, List.length_append, List.length_singleton, nI_1]; rfl
  · intro j p2 st2 v2 hj2
    replace hj2 : (z_D S ++ [(p, st, v)])[j]? = some (p2, st2, v2) := hj2
    by_cases e : j < (z_D S).length
    · rw [List.getElem?_append_left e] at hj2
      have := q2 j p2 st2 v2 hj2
      refine ⟨?_, ?_, ?_⟩ <;> (rw [hA]; repeat rw [if_neg (by omega)])
      · exact this.1
      · exact this.2.1
      · exact this.2.2
    · rw [List.getElem?_append_right (by omega)] at hj2
      have e2 : j - (z_D S).length < 1 := (List.getElem?_eq_some_iff.mp hj2).1
      have e3 : j = (z_D S).length := by omega
      subst e3
      rw [Nat.sub_self] at hj2
      cases hj2
      refine ⟨?_, ?_, ?_⟩ <;> (rw [hA]; simp)
theorem zpw_snoc {l : List Nat} {sn sn2 : Nat → Nat} {p c : Nat} (h : l.Pairwise (fun a b => sn a < sn b)) (hp : p ∉ l) (hs : ∀ q ∈ l, sn q < c) (e : ∀ q, sn2 q = if q = p then c else sn q) : (l ++ [p]).Pairwise (fun a b => sn2 a < sn2 b) := by
  rw [List.pairwise_append]
  refine ⟨?_, List.pairwise_singleton _ _, ?_⟩
  · refine List.Pairwise.imp_of_mem (fun {a b} ha hb h => ?_) h
    have a1 : ¬ a = p := fun z => hp (by rw [← z]; exact ha)
    have a2 : ¬ b = p := fun z => hp (by rw [← z]; exact hb)
    rw [e, e, if_neg a1, if_neg a2]
    exact h
  · intro a ha b hb
    rw [List.mem_singleton] at hb
    subst hb
    have a1 : ¬ a = b := fun z => hp (by rw [← z]; exact ha)
    rw [e, e, if_neg a1, if_pos rfl]
    exact hs a ha
theorem zpw_same {l : List Nat} {sn sn2 : Nat → Nat} {p c : Nat} (h : l.Pairwise (fun a b => sn a < sn b)) (hp : p ∉ l) (e : ∀ q, sn2 q = if q = p then c else sn q) : l.Pairwise (fun a b => sn2 a < sn2 b) := by
  refine List.Pairwise.imp_of_mem (fun {a b} ha hb h => ?_) h
  have a1 : ¬ a = p := fun z => hp (by rw [← z]; exact ha)
  have a2 : ¬ b = p := fun z => hp (by rw [← z]; exact hb)
  rw [e, e, if_neg a1, if_neg a2]
  exact h
/-- the message of p is kept by t from now on (how = 1: it is held; 2: it waits) -/
theorem m_keep {m : Nat} {τ τ1 τ2 τ3 τ4 : xS} {S S2 : zS} {k0 c p t : Nat} {how : Int32} (h : zRM m τ S k0 c) (hp : p < z_N S 1) (hnot : ¬ z_F S 16 p = 1 ∧ ¬ z_F S 16 p = 2) (ht : t < 1000)
    (e1 : τ1 = xs_a τ (m + 16) p how) (e2 : τ2 = xs_a τ1 (m + 21) p (nI t)) (e3 : τ3 = xs_a τ2 (m + 22) p (nI c)) (e4 : τ4 = xs_I τ3 472 m (nI (c + 1)))
    (hS : S2 = (xu_2 (z_F S) 16 p how, z_N S, z_u S, z_r S, z_W S, (if how = 1 then va_up (z_H S) t (z_H S t ++ [p]) else z_H S), (if how = 2 then va_up (z_Q S) t (z_Q S t ++ [p]) else z_Q S), z_D S)) (hh : how = 1 ∨ how = 2) : zRM m τ4 S2 k0 (c + 1) := by
  obtain ⟨⟨d1, d2, d3⟩, ⟨fl, hl⟩, ⟨kb, sn, h1, h2, h3, h4, h5, h6, h7, h8⟩, hq⟩ := h
  obtain ⟨I1, L1, W1, A1⟩ := st_a e1
  obtain ⟨I2, L2, W2, A2⟩ := st_a e2
  obtain ⟨I3, L3, W3, A3⟩ := st_a e3
  obtain ⟨A4, L4, W4, I4⟩ := st_I e4
  have hA : ∀ k j, xh_a τ4 (m + k) j = if k = 22 ∧ j = p then nI c else if k = 21 ∧ j = p then nI t else if k = 16 ∧ j = p then how else xh_a τ (m + k) j := fun k j => by rw [A4, A3, A2, A1]
  have hI : ∀ g, g ≠ 472 → xh_I τ4 g m = xh_I τ g m := fun g hg => by rw [I4, if_neg hg, I3, I2, I1]
  have hF : ∀ k j, z_F S2 k j = if k = 16 ∧ j = p then how else z_F S k j := fun k j => by rw [hS]; rfl
  have hH : ∀ t2, z_H S2 t2 = if how = 1 ∧ t2 = t then z_H S t ++ [p] else z_H S t2 := fun t2 => by
    rw [hS]
    show (if how = 1 then va_up (z_H S) t (z_H S t ++ [p]) else z_H S) t2 = _
    by_cases z : how = 1
    · rw [if_pos z]; unfold va_up; simp [z]
    · rw [if_neg z]; simp [z]
  have hQ : ∀ t2, z_Q S2 t2 = if how = 2 ∧ t2 = t then z_Q S t ++ [p] else z_Q S t2 := fun t2 => by
    rw [hS]
    show (if how = 2 then va_up (z_Q S) t (z_Q S t ++ [p]) else z_Q S) t2 = _
    by_cases z : how = 2
    · rw [if_pos z]; unfold va_up; simp [z]
    · rw [if_neg z]; simp [z]
  have hN : z_N S2 = z_N S := by rw [hS]; rfl
  have hpH : ∀ t2, p ∉ z_H S t2 := fun t2 z => hnot.1 ((h3 t2 p).mp z).2.1
  have hpQ : ∀ t2, p ∉ z_Q S t2 := fun t2 z => hnot.2 ((h4 t2 p).mp z).2.1
  refine ⟨⟨⟨by rw [hS]; exact W4 (W3 (W2 (W1 d1.1))), by rw [hI _ (by omega), hF, if_neg (by omega)]; exact d1.2⟩, fun k j hk => ?_, ?_, ?_, ?_, ?_, ?_⟩, ⟨fl, zMl_congr hl (fun k j a b => ?_) (hI _ (by omega)) (by rw [hS]; rfl)⟩, ⟨fun q => if q = p then t else kb q, fun q => if q = p then c else sn q, fun q => ?_, ?_, fun t2 q => ?_, fun t2 q => ?_, fun t2 => ?_, fun t2 => ?_, fun q hq1 hq2 => ?_, fun q => ?_⟩, zMq_congr hq (fun k j a b => ?_) (hI _ (by omega)) (by rw [hS]; rfl)⟩
  · rw [hA, hF]
    have a1 : k ≠ 22 ∧ k ≠ 21 := by unfold zDK at hk; omega
    rw [if_neg (fun z => a1.1 z.1), if_neg (fun z => a1.2 z.1), d2 k j hk]
  · rw [hI _ (by omega), hN]; exact d3.1
  · rw [hI _ (by omega), hN]; exact d3.2.1
  · rw [hI _ (by omega), hN]; exact d3.2.2.1
  · rw [hI _ (by omega), hS]; exact d3.2.2.2.1
  · rw [L4, L3, L2, L1, hS]; exact d3.2.2.2.2
  · rw [hA]; repeat rw [if_neg (by omega)]
  · rw [hA, hA]
    by_cases z : q = p
    · subst z; simp
    · simp [z]; exact h1 q
  · rw [I4, if_pos rfl]
  · rw [hH, hN, hF]
    by_cases z : q = p
    · subst z
      rcases hh with hh | hh
      · subst hh
        by_cases z2 : t2 = t
        · subst z2; simp [hp]
        · have : ¬ t = t2 := fun y => z2 y.symm
          simp [z2, hpH t2, this]
      · subst hh
        simp [hpH t2]
    · by_cases z2 : how = 1 ∧ t2 = t
      · rw [if_pos z2, z2.2]; simp [z, h3 t q]
      · rw [if_neg z2]; simp [z, h3 t2 q]
  · rw [hQ, hN, hF]
    by_cases z : q = p
    · subst z
      rcases hh with hh | hh
      · subst hh
        simp [hpQ t2]
      · subst hh
        by_cases z2 : t2 = t
        · subst z2; simp [hp]
        · have : ¬ t = t2 := fun y => z2 y.symm
          simp [z2, hpQ t2, this]
    · by_cases z2 : how = 2 ∧ t2 = t
      · rw [if_pos z2, z2.2]; simp [z, h4 t q]
      · rw [if_neg z2]; simp [z, h4 t2 q]
  · rw [hH]
    by_cases z2 : how = 1 ∧ t2 = t
    · rw [if_pos z2]
      exact zpw_snoc (c := c) (h5 t) (hpH t) (fun q hq => by have := (h3 t q).mp hq; exact h7 q this.1 (Or.inl this.2.1)) (fun q => rfl)
    · rw [if_neg z2]; exact zpw_same (c := c) (h5 t2) (hpH t2) (fun q => rfl)
  · rw [hQ]
    by_cases z2 : how = 2 ∧ t2 = t
    · rw [if_pos z2]
      exact zpw_snoc (c := c) (h6 t) (hpQ t) (fun q hq => by have := (h4 t q).mp hq; exact h7 q this.1 (Or.inr this.2.1)) (fun q => rfl)
    · rw [if_neg z2]; exact zpw_same (c := c) (h6 t2) (hpQ t2) (fun q => rfl)
  · rw [hF] at hq2
    rw [hN] at hq1
    by_cases z : q = p
    · simp [z]
    · simp [z] at hq2 ⊢
      have := h7 q hq1 hq2
      omega
  · refine ⟨?_, fun hq1 => ?_⟩
    · by_cases z : q = p
      · simp [z, ht]
      · simp [z]; exact (h8 q).1
    · rw [hN] at hq1
      rw [hF, if_neg (fun z => by omega)]
      exact (h8 q).2 hq1
  · rw [hA]; repeat rw [if_neg (by omega)]
