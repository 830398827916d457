/-! A letter is taken off the reference's list -/
theorem filt_erase : ∀ (fl : List (Nat × zL)) (i w : Nat) (l : zL), fl[i]? = some (w, l) → (∀ j, j < i → ∀ e, fl[j]? = some e → ¬ e.1 = w) → (fl.filter (fun e => e.1 == w)).map Prod.snd = l :: ((fl.eraseIdx i).filter (fun e => e.1 == w)).map Prod.snd ∧ ∀ v, ¬ v = w → ((fl.eraseIdx i).filter (fun e => e.1 == v)).map Prod.snd = (fl.filter (fun e => e.1 == v)).map Prod.snd := by
  intro fl
  induction fl with
  | nil => intro i w l h; simp at h
  | cons a fl ih =>
    intro i w l h hj
    cases i with
    | zero =>
      simp at h
      subst h
      refine ⟨by simp, fun v hv => ?_⟩
      have : ¬ w = v := fun z => hv z.symm
      simp [this]
    | succ i =>
      have h0 := hj 0 (by omega) a rfl
      obtain ⟨g1, g2⟩ := ih i w l (by simpa using h) (fun j hj2 e he => hj (j + 1) (by omega) e (by simpa using he))
      refine ⟨by simpa [h0] using g1, fun v hv => ?_⟩
      have g3 := g2 v hv
      by_cases z : a.1 = v
      · simpa [z] using g3
      · simpa [z] using g3
def zSh (m : Nat) (τ0 τ : xS) (i j : Nat) : Prop := xh_I τ = xh_I τ0 ∧ xh_L τ = xh_L τ0 ∧ (∀ {n : Nat}, yw7 τ0 m n → yw7 τ m n) ∧ ∀ k j2, xh_a τ (m + k) j2 = if (27 ≤ k ∧ k ≤ 35) ∧ i ≤ j2 ∧ j2 < j then xh_a τ0 (m + k) (j2 + 1) else xh_a τ0 (m + k) j2
theorem m_shift {m : Nat} {Q : xS → Prop} {τ0 : xS} {i n : Nat} (hn : n < 400) (hI : xh_I τ0 478 m = nI n) (hb : ∀ j, j ≤ n → xh_a τ0 (m + 35) j = 0 ∨ xh_a τ0 (m + 35) j = 1) (hQ : ∀ τ2, zSh m τ0 τ2 i n → Q τ2) : ∀ (f j : Nat) (τ : xS), n < j + f → i ≤ j → j ≤ n → zSh m τ0 τ i j → wb_X7_takesOut_102 Q m f τ (nI j) := by
  intro f
  induction f with
  | zero => intro j τ h1 h2 h3; omega
  | succ f ih =>
    intro j τ h1 h2 h3 hs
    obtain ⟨hI0, hL0, hW0, hA0⟩ := hs
    unfold wb_X7_takesOut_102
    rw [hI0, hI, nI_leI (by omega) (by omega)]
    refine ⟨fun z => ?_, fun z => ?_⟩
    · have : j = n := by omega
      subst this
      exact hQ τ ⟨hI0, hL0, hW0, hA0⟩
    · have hv : vp_in (nI j) 400 := vpI (by omega)
      have hv1 : vp_in (nI j + 1) 400 := by rw [nI_1]; exact vpI (by omega)
      have c0 : (nI j).toNatClampNeg = j := cl40 (by omega)
      have c1 : (nI j + 1).toNatClampNeg = j + 1 := by rw [nI_1]; exact cl40 (by omega)
      have at1 : ∀ k, xh_a τ (m + k) (j + 1) = xh_a τ0 (m + k) (j + 1) := fun k => by rw [hA0, if_neg (by omega)]
      rw [c0, c1]
      refine ⟨hv1, hv, ?_⟩
      intro τ1 e1
      obtain ⟨I1, L1, W1, A1⟩ := st_a e1
      refine ⟨hv1, hv, ?_⟩
      intro τ2 e2
      obtain ⟨I2, L2, W2, A2⟩ := st_a e2
      refine ⟨hv1, hv, ?_⟩
      intro τ3 e3
      obtain ⟨I3, L3, W3, A3⟩ := st_a e3
      refine ⟨hv1, hv, ?_⟩
      intro τ4 e4
      obtain ⟨I4, L4, W4, A4⟩ := st_a e4
      refine ⟨hv1, hv, ?_⟩
      intro τ5 e5
      obtain ⟨I5, L5, W5, A5⟩ := st_a e5
      refine ⟨hv1, hv, ?_⟩
      intro τ6 e6
      obtain ⟨I6, L6, W6, A6⟩ := st_a e6
      refine ⟨hv1, hv, ?_⟩
      intro τ7 e7
      obtain ⟨I7, L7, W7, A7⟩ := st_a e7
      refine ⟨hv1, hv, ?_⟩
      intro τ8 e8
      obtain ⟨I8, L8, W8, A8⟩ := st_a e8
      have r8 : xh_a τ8 (m + 35) (j + 1) = xh_a τ0 (m + 35) (j + 1) := by
        rw [A8, if_neg (by omega), A7, if_neg (by omega), A6, if_neg (by omega), A5, if_neg (by omega), A4, if_neg (by omega), A3, if_neg (by omega), A2, if_neg (by omega), A1, if_neg (by omega), at1]
      refine ⟨hv1, hv, by rw [r8]; exact hb _ (by omega), ?_⟩
      intro τ9 e9
      obtain ⟨I9, L9, W9, A9⟩ := st_a e9
      rw [nI_1]
      refine ih (j + 1) τ9 (by omega) (by omega) (by omega) ⟨by rw [I9, I8, I7, I6, I5, I4, I3, I2, I1, hI0], by rw [L9, L8, L7, L6, L5, L4, L3, L2, L1, hL0], fun h => W9 (W8 (W7 (W6 (W5 (W4 (W3 (W2 (W1 (hW0 h))))))))), fun k j2 => ?_⟩
      have q1 : ∀ k, ¬ (k = 27 ∧ j + 1 = j) := by omega
      have B1 : ∀ k, xh_a τ1 (m + k) (j + 1) = xh_a τ0 (m + k) (j + 1) := fun k => by rw [A1, if_neg (by omega), at1]
      have B2 : ∀ k, xh_a τ2 (m + k) (j + 1) = xh_a τ0 (m + k) (j + 1) := fun k => by rw [A2, if_neg (by omega), B1]
      have B3 : ∀ k, xh_a τ3 (m + k) (j + 1) = xh_a τ0 (m + k) (j + 1) := fun k => by rw [A3, if_neg (by omega), B2]
      have B4 : ∀ k, xh_a τ4 (m + k) (j + 1) = xh_a τ0 (m + k) (j + 1) := fun k => by rw [A4, if_neg (by omega), B3]
      have B5 : ∀ k, xh_a τ5 (m + k) (j + 1) = xh_a τ0 (m + k) (j + 1) := fun k => by rw [A5, if_neg (by omega), B4]
      have B6 : ∀ k, xh_a τ6 (m + k) (j + 1) = xh_a τ0 (m + k) (j + 1) := fun k => by rw [A6, if_neg (by omega), B5]
      have B7 : ∀ k, xh_a τ7 (m + k) (j + 1) = xh_a τ0 (m + k) (j + 1) := fun k => by rw [A7, if_neg (by omega), B6]
      rw [A9, r8, A8, B7, A7, B6, A6, B5, A5, B4, A4, B3, A3, B2, A2, B1, A1, at1, hA0]
      by_cases e : j2 = j
      · subst e
        by_cases hk : 27 ≤ k ∧ k ≤ 35
        · rw [if_pos (show (27 ≤ k ∧ k ≤ 35) ∧ i ≤ j2 ∧ j2 < j2 + 1 from ⟨hk, h2, by omega⟩)]
          have : k = 27 ∨ k = 28 ∨ k = 29 ∨ k = 30 ∨ k = 31 ∨ k = 32 ∨ k = 33 ∨ k = 34 ∨ k = 35 := by omega
          rcases this with z | z | z | z | z | z | z | z | z <;> subst z <;> simp
        · repeat rw [if_neg (by omega)]
      · have s1 : (j2 < j + 1) ↔ j2 < j := by omega
        simp only [e, and_false, if_false, s1]
/-- the first letter of a wire, and where it lies -/
def zAt (m : Nat) (τ : xS) (S : zS) (w i : Nat) (l : zL) (ls : List zL) : Prop := z_W S w = l :: ls ∧ ∃ fl, zMl m τ S fl ∧ fl[i]? = some (w, l) ∧ (∀ j, j < i → ∀ e, fl[j]? = some e → ¬ e.1 = w)
theorem at_of {m : Nat} {τ : xS} {S : zS} {fl : List (Nat × zL)} {i w : Nat} {l : zL} (h : zMl m τ S fl) (hi : fl[i]? = some (w, l)) (hf : ∀ j, j < i → ∀ e, fl[j]? = some e → ¬ e.1 = w) : ∃ ls, zAt m τ S w i l ls := by
  refine ⟨((fl.eraseIdx i).filter (fun e => e.1 == w)).map Prod.snd, ?_, fl, h, hi, hf⟩
  rw [← h.2.2 w]
  exact (filt_erase fl i w l hi hf).1
def zOut (m : Nat) (τ : xS) (l : zL) : Prop := xh_I τ 498 m = z_lk l ∧ xh_I τ 501 m = z_lp l ∧ xh_I τ 502 m = zOI l.2.2.1 ∧ xh_I τ 503 m = zOI l.2.2.2.1 ∧ xh_I τ 504 m = l.2.2.2.2.1 ∧ xh_I τ 505 m = l.2.2.2.2.2 ∧ xh_I τ 506 m = z_lb l
theorem lb01 (l : zL) : z_lb l = 0 ∨ z_lb l = 1 := by
  unfold z_lb
  split
  · exact Or.inr rfl
  · exact Or.inl rfl
theorem nI_pred1 {n : Nat} (h : 0 < n) : nI n - 1 = nI (n - 1) := by
  obtain ⟨k, rfl⟩ : ∃ k, n = k + 1 := ⟨n - 1, by omega⟩
  have e : nI (k + 1) = nI k + 1 := (nI_1 k).symm
  rw [e, Nat.add_sub_cancel, nI_1, nI_pred]
theorem m_take {m : Nat} {τ : xS} {S : zS} {c w i : Nat} {l : zL} {ls : List zL} {Q : xS → Prop} (hR : zRM m τ S 0 c) (hI : zI S) (hA : zAt m τ S w i l ls) (k : ∀ τ2, zRM m τ2 (z_off S w l ls) 0 c → zOut m τ2 l → Q τ2) : wp_X7_takesOut τ m (nI i) Q := by
  obtain ⟨hw, fl, hl, hi, hf⟩ := hA
  have hcnt := zI_cnt hI
  have hn := m_cnt hl
  obtain ⟨⟨d1, d2, d3⟩, -, hkk, hq⟩ := hR
  have hlt : i < fl.length := (List.getElem?_eq_some_iff.mp hi).1
  obtain ⟨E1, E2⟩ := filt_erase fl i w l hi hf
  obtain ⟨h1, h2, h3⟩ := hl
  have els : ((fl.eraseIdx i).filter (fun e => e.1 == w)).map Prod.snd = ls := by
    rw [h3 w, hw] at E1
    exact (List.cons.inj E1).2.symm
  obtain ⟨-, a1, a2, a3, a4, a5, a6, a7, a8, a9⟩ := h2 i w l hi
  have hv : vp_in (nI i) 400 := vpI (by omega)
  have ci : (nI i).toNatClampNeg = i := cl40 (by omega)
  unfold wp_X7_takesOut
  rw [ci]
  refine ⟨hv, ?_⟩
  intro τ1 e1
  obtain ⟨A1, L1, W1, I1⟩ := st_I e1
  rw [A1]
  refine ⟨hv, ?_⟩
  intro τ2 e2
  obtain ⟨A2, L2, W2, I2⟩ := st_I e2
  rw [A2, A1]
  refine ⟨hv, ?_⟩
  intro τ3 e3
  obtain ⟨A3, L3, W3, I3⟩ := st_I e3
  rw [A3, A2, A1]
  refine ⟨hv, ?_⟩
  intro τ4 e4
  obtain ⟨A4, L4, W4, I4⟩ := st_I e4
  rw [A4, A3, A2, A1]
  refine ⟨hv, ?_⟩
  intro τ5 e5
  obtain ⟨A5, L5, W5, I5⟩ := st_I e5
  rw [A5, A4, A3, A2, A1]
  refine ⟨hv, ?_⟩
  intro τ6 e6
  obtain ⟨A6, L6, W6, I6⟩ := st_I e6
  rw [A6, A5, A4, A3, A2, A1]
  refine ⟨hv, ?_⟩
  intro τ7 e7
  obtain ⟨A7, L7, W7, I7⟩ := st_I e7
  rw [A7, A6, A5, A4, A3, A2, A1]
  refine ⟨hv, ?_⟩
  intro τ8 e8
  obtain ⟨A8, L8, W8, I8⟩ := st_I e8
  rw [A8, A7, A6, A5, A4, A3, A2, A1, a9]
  refine ⟨hv, lb01 l, ?_⟩
  intro τ9 e9
  obtain ⟨A9, L9, W9, I9⟩ := st_I e9
  intro τ10 e10
  obtain ⟨A10, L10, W10, I10⟩ := st_I e10
  have hAll : xh_a τ10 = xh_a τ := by rw [A10, A9, A8, A7, A6, A5, A4, A3, A2, A1]
  have hLL : xh_L τ10 = xh_L τ := by rw [L10, L9, L8, L7, L6, L5, L4, L3, L2, L1]
  have hWW : ∀ {n : Nat}, yw7 τ m n → yw7 τ10 m n := fun h => W10 (W9 (W8 (W7 (W6 (W5 (W4 (W3 (W2 (W1 h)))))))))
  have hII : ∀ g, g < 498 → g ≠ 478 → xh_I τ10 g m = xh_I τ g m := by
    intro g hg hg2
    rw [I10, if_neg hg2, I9, if_neg (by omega), I8, if_neg (by omega), I7, if_neg (by omega), I6, if_neg (by omega), I5, if_neg (by omega), I4, if_neg (by omega), I3, if_neg (by omega), I2, if_neg (by omega), I1, if_neg (by omega)]
  have h478 : xh_I τ10 478 m = nI (fl.length - 1) := by
    rw [I10, if_pos rfl, I9, if_neg (by omega), I8, if_neg (by omega), I7, if_neg (by omega), I6, if_neg (by omega), I5, if_neg (by omega), I4, if_neg (by omega), I3, if_neg (by omega), I2, if_neg (by omega), I1, if_neg (by omega), h1, nI_pred1 (by omega)]
  have hrow : ∀ j, j ≤ fl.length - 1 → xh_a τ10 (m + 35) j = 0 ∨ xh_a τ10 (m + 35) j = 1 := by
    intro j hj
    have hj2 : j < fl.length := by omega
    have := (h2 j (fl[j]).1 (fl[j]).2 (by rw [List.getElem?_eq_getElem hj2])).2.2.2.2.2.2.2.2.2
    rw [hAll, this]
    exact lb01 _
  refine ⟨fl.length, m_shift (n := fl.length - 1) (i := i) (by omega) h478 hrow ?_ fl.length i τ10 (by omega) (by omega) (by omega) ⟨rfl, rfl, fun h => h, fun k2 j2 => by rw [if_neg (by omega)]⟩⟩
  intro τ2 hs
  obtain ⟨sI, sL, sW, sA⟩ := hs
  have o : ∀ g, xh_I τ2 g m = xh_I τ10 g m := fun g => by rw [sI]
  have hJ : ∀ g, g < 498 → g ≠ 478 → xh_I τ2 g m = xh_I τ g m := fun g a b => (o g).trans (hII g a b)
  have o498 : xh_I τ2 498 m = z_lk l := by
    rw [o, I10, if_neg (by omega), I9, if_neg (by omega), I8, if_neg (by omega), I7, if_neg (by omega), I6, if_neg (by omega), I5, if_neg (by omega), I4, if_neg (by omega), I3, if_neg (by omega), I2, if_neg (by omega), I1, if_pos rfl, a1]
  have hout : ∀ k2 j, k2 < 27 ∨ 35 < k2 → xh_a τ2 (m + k2) j = xh_a τ (m + k2) j := fun k2 j hk2 => by rw [sA, if_neg (by omega), hAll]
  refine k τ2 ⟨⟨⟨sW (hWW d1.1), by rw [o498]; rfl⟩, fun k2 j hk2 => ?_, ?_, ?_, ?_, ?_, ?_⟩, ⟨fl.eraseIdx i, ?_, ?_, ?_⟩, zMk_congr hkk (fun j => hout 21 j (by omega)) (fun j => hout 22 j (by omega)) (hJ _ (by omega) (by omega)) rfl rfl rfl (fun p => rfl), zMq_congr hq (fun k2 j a b => hout k2 j (by omega)) (hJ _ (by omega) (by omega)) rfl⟩ ⟨o498, ?_, ?_, ?_, ?_, ?_, ?_⟩
  · rw [hout k2 j (by unfold zDK at hk2; omega), d2 k2 j hk2]
    exact (zF_ne (S := zs_W S w ls) (by unfold zDK at hk2; omega)).symm
  · rw [hJ _ (by omega) (by omega)]; exact d3.1
  · rw [hJ _ (by omega) (by omega)]; exact d3.2.1
  · rw [hJ _ (by omega) (by omega)]; exact d3.2.2.1
  · rw [hJ _ (by omega) (by omega)]; exact d3.2.2.2.1
  · rw [sL, hLL]; exact d3.2.2.2.2
  · rw [o, h478, List.length_eraseIdx, if_pos hlt]
  · intro j w2 l2 hj
    rw [List.getElem?_eraseIdx] at hj
    by_cases z : j < i
    · rw [if_pos z] at hj
      obtain ⟨b0, b1, b2, b3, b4, b5, b6, b7, b8, b9⟩ := h2 j w2 l2 hj
      refine ⟨b0, ?_, ?_, ?_, ?_, ?_, ?_, ?_, ?_, ?_⟩ <;> (rw [sA, if_neg (by omega), hAll]; assumption)
    · rw [if_neg z] at hj
      have hj2 : j + 1 < fl.length := (List.getElem?_eq_some_iff.mp hj).1
      obtain ⟨b0, b1, b2, b3, b4, b5, b6, b7, b8, b9⟩ := h2 (j + 1) w2 l2 hj
      refine ⟨b0, ?_, ?_, ?_, ?_, ?_, ?_, ?_, ?_, ?_⟩ <;> (rw [sA, if_pos (by omega), hAll]; assumption)
  · intro v
    show _ = z_W (zs_W S w ls) v
    rw [wW_set]
    by_cases z : v = w
    · subst z; rw [if_pos rfl]; exact els
    · rw [if_neg z, E2 v z]; exact h3 v
  · rw [o, I10, if_neg (by omega), I9, if_neg (by omega), I8, if_neg (by omega), I7, if_neg (by omega), I6, if_neg (by omega), I5, if_neg (by omega), I4, if_pos rfl, a4]
  · rw [o, I10, if_neg (by omega), I9, if_neg (by omega), I8, if_neg (by omega), I7, if_neg (by omega), I6, if_neg (by omega), I5, if_pos rfl, a5]
  · rw [o, I10, if_neg (by omega), I9, if_neg (by omega), I8, if_neg (by omega), I7, if_neg (by omega), I6, if_pos rfl, a6]
  · rw [o, I10, if_neg (by omega), I9, if_neg (by omega), I8, if_neg (by omega), I7, if_pos rfl, a7]
  · rw [o, I10, if_neg (by omega), I9, if_neg (by omega), I8, if_pos rfl, a8]
  · rw [o, I10, if_neg (by omega), I9, if_pos rfl]
theorem m_firstL {m : Nat} {τ : xS} {S : zS} {c a b : Nat} {Q : Int32 → Prop} (hR : zRM m τ S 0 c) (hI : zI S) (ha : a < 4) (hb : b < 4) (k0 : z_W S (4 * a + b) = [] → Q (xh_I τ 478 m)) (k1 : ∀ l ls i, ¬ xh_I τ 478 m ≤ nI i → zAt m τ S (4 * a + b) i l ls → Q (nI i)) : wp_X7_firstLetter τ m (nI a) (nI b) Q := by
  obtain ⟨fl, hl⟩ := hR.2.1
  have hcnt := zI_cnt hI
  have hn := m_cnt hl
  have key : ∀ (f j : Nat), j ≤ fl.length → fl.length < j + f → (∀ i, i < j → ∀ e, fl[i]? = some e → ¬ e.1 = 4 * a + b) → wb_X7_firstLetter_2 Q τ m f (nI a) (nI b) (nI j) := by
    intro f
    induction f with
    | zero => intro j h1 h2; omega
    | succ f ih =>
      intro j hj1 hj2 hf
      unfold wb_X7_firstLetter_2
      rw [hl.1, nI_leI (by omega) (by omega), cl40 (by omega)]
      refine ⟨fun z => ?_, fun z => ?_⟩
      · have e : j = fl.length := by omega
        unfold wb_X7_firstLetter_36
        rw [e, ← hl.1]
        refine k0 ?_
        rw [← hl.2.2]
        rw [List.map_eq_nil_iff, List.filter_eq_nil_iff]
        intro x hx
        obtain ⟨i, hi⟩ := List.getElem?_of_mem hx
        have hi2 : i < fl.length := (List.getElem?_eq_some_iff.mp hi).1
        simpa using hf i (by omega) x hi
      · have hlt : j < fl.length := by omega
        have hg : fl[j]? = some ((fl[j]).1, (fl[j]).2) := by rw [List.getElem?_eq_getElem hlt]
        obtain ⟨h16, -, b2, b3, -⟩ := hl.2.1 j _ _ hg
        have hv : vp_in (nI j) 400 := vpI (by omega)
        have next : ¬ (fl[j]).1 = 4 * a + b → wb_X7_firstLetter_30 Q (fun l1 l2 l3 => wb_X7_firstLetter_2 Q τ m f l1 l2 l3) τ m (nI a) (nI b) (nI j) := by
          intro hne
          unfold wb_X7_firstLetter_30
          rw [nI_1]
          refine ih (j + 1) (by omega) (by omega) (fun i hi e he => ?_)
          by_cases z2 : i = j
          · subst z2
            rw [hg] at he
            cases he
            exact hne
          · exact hf i (by omega) e he
        rw [b2, b3, nI_eq (by omega) (by omega), nI_eq (by omega) (by omega)]
        refine ⟨hv, fun y1 => ⟨hv, fun y2 => ?_, fun y2 => next (fun y => by omega)⟩, fun y1 => next (fun y => by omega)⟩
        have ew : (fl[j]).1 = 4 * a + b := by omega
        rw [ew] at hg
        obtain ⟨ls, hA⟩ := at_of hl hg hf
        exact k1 _ ls j (by rw [hl.1, nI_leI (by omega) (by omega)]; omega) hA
  refine ⟨fl.length + 1, ?_⟩
  have := key (fl.length + 1) 0 (by omega) (by omega) (fun i hi => by omega)
  rw [nI_0] at this
  exact this
