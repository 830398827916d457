-- lists of letters
theorem fl_len : ∀ (fl : List (Nat × zL)) (n : Nat), (∀ e ∈ fl, e.1 < n) → fl.length = ((List.range n).map (fun w => (fl.filter (fun e => e.1 == w)).length)).foldl (· + ·) 0 := by
  intro fl n h
  have key : ∀ (n : Nat) (fl : List (Nat × zL)), (∀ e ∈ fl, e.1 < n) → fl.length = ((List.range n).map (fun w => (fl.filter (fun e => e.1 == w)).length)).sum := by
    intro n
    induction n with
    | zero =>
      intro fl h
      cases fl with
      | nil => rfl
      | cons a l => exact absurd (h a List.mem_cons_self) (Nat.not_lt_zero _)
    | succ n ih =>
      intro fl h
      rw [List.range_succ, List.map_append, List.sum_append]
      have h1 := ih (fl.filter (fun e => !(e.1 == n))) (fun e he => by
        rw [List.mem_filter] at he
        have := h e he.1
        have h2 : ¬ e.1 = n := by simpa using he.2
        omega)
      have h3 : ∀ w, w < n → (fl.filter (fun e => !(e.1 == n))).filter (fun e => e.1 == w) = fl.filter (fun e => e.1 == w) := by
        intro w hw
        rw [List.filter_filter]
        refine List.filter_congr (fun e _ => ?_)
        by_cases z : e.1 = w
        · have : ¬ e.1 = n := by omega
          simp [z]; omega
        · simp [z]
      have h4 : ((List.range n).map (fun w => ((fl.filter (fun e => !(e.1 == n))).filter (fun e => e.1 == w)).length)) = ((List.range n).map (fun w => (fl.filter (fun e => e.1 == w)).length)) := by
        refine List.map_congr_left (fun w hw => ?_)
        rw [h3 w (List.mem_range.mp hw)]
      rw [h4] at h1
      rw [← h1]
      have h5 : ∀ (l : List (Nat × zL)), l.length = (l.filter (fun e => !(e.1 == n))).length + (l.filter (fun e => e.1 == n)).length := by
        intro l
        induction l with
        | nil => rfl
        | cons a l ih =>
          by_cases z : a.1 = n
          · simp [z, ih]; omega
          · simp [z, ih]; omega
      simpa using h5 fl
  rw [key n fl h, List.sum_eq_foldl]
def z_cnt (S : zS) : Nat := ((List.range 16).map (fun w => (z_W S w).length)).foldl (· + ·) 0
theorem m_cnt {m : Nat} {τ : xS} {S : zS} {fl : List (Nat × zL)} (h : zMl m τ S fl) : fl.length = z_cnt S := by
  obtain ⟨h1, h2, h3⟩ := h
  rw [fl_len fl 16 (fun e he => by
    obtain ⟨j, hj⟩ := List.getElem?_of_mem he
    exact (h2 j e.1 e.2 hj).1)]
  unfold z_cnt
  congr 1
  refine List.map_congr_left (fun w _ => ?_)
  rw [← h3 w, List.length_map]
theorem vpI {n N : Nat} (h : n < N) (hN : N < 2 ^ 31 := by decide) : vp_in (nI n) N := vp_in_nI h hN
-- behind a store
theorem st_a {τ τ2 : xS} {m k i : Nat} {v : Int32} (e : τ2 = xs_a τ (m + k) i v) : xh_I τ2 = xh_I τ ∧ xh_L τ2 = xh_L τ ∧ (∀ {n : Nat}, yw7 τ m n → yw7 τ2 m n) ∧ ∀ k2 j, xh_a τ2 (m + k2) j = if k2 = k ∧ j = i then v else xh_a τ (m + k2) j := by
  subst e
  refine ⟨rfl, rfl, fun h => h, fun k2 j => ?_⟩
  show xu_2 (xh_a τ) (m + k) i v (m + k2) j = _
  unfold xu_2
  by_cases h : k2 = k
  · subst h; simp
  · have : ¬ m + k2 = m + k := by omega
    simp [h]
theorem st_I {τ τ2 : xS} {m f : Nat} {v : Int32} (e : τ2 = xs_I τ f m v) : xh_a τ2 = xh_a τ ∧ xh_L τ2 = xh_L τ ∧ (∀ {n : Nat}, yw7 τ m n → yw7 τ2 m n) ∧ ∀ g, xh_I τ2 g m = if g = f then v else xh_I τ g m := by
  subst e
  exact ⟨rfl, rfl, fun h => h, fun g => xI_eq⟩
theorem filt_snoc {fl : List (Nat × zL)} {w v : Nat} {l : zL} : ((fl ++ [(w, l)]).filter (fun e => e.1 == v)).map Prod.snd = (fl.filter (fun e => e.1 == v)).map Prod.snd ++ (if v = w then [l] else []) := by
  rw [List.filter_append, List.map_append]
  by_cases h : v = w
  · subst h; simp
  · have : ¬ w = v := fun z => h z.symm
    simp [h, this]
/-- a letter is posted -/
theorem m_post {m : Nat} {τ : xS} {S : zS} {k0 c w : Nat} {l : zL} {Q : xS → Prop} (h : zRM m τ S k0 c) (hw : w < 16) (hc : z_cnt S < 400) (k : ∀ τ2, zRM m τ2 (z_post S w l) k0 c → Q τ2) : wp_X7_posts τ m (z_lk l) (nI (w / 4)) (nI (w % 4)) (z_lp l) (zOI l.2.2.1) (zOI l.2.2.2.1) l.2.2.2.2.1 l.2.2.2.2.2 (z_lb l) Q := by
  obtain ⟨⟨d1, d2, d3⟩, ⟨fl, hl⟩, hkk, hq⟩ := h
  have hn := m_cnt hl
  obtain ⟨h1, h2, h3⟩ := hl
  have hj : (nI fl.length).toNatClampNeg = fl.length := nI_clamp (by omega)
  have hv : vp_in (nI fl.length) 400 := vpI (by omega)
  have hv2 : vp_in (xh_I τ 478 m) 400 := by rw [h1]; exact hv
  unfold wp_X7_posts
  refine ⟨by exact hv2, ?_⟩
  intro τ1 e1
  obtain ⟨I1, L1, W1, A1⟩ := st_a e1
  have H1 : xh_I τ1 = xh_I τ := I1
  refine ⟨by rw [H1]; exact hv2, ?_⟩
  intro τ2 e2
  obtain ⟨I2, L2, W2, A2⟩ := st_a e2
  have H2 : xh_I τ2 = xh_I τ := I2.trans H1
  refine ⟨by rw [H2]; exact hv2, ?_⟩
  intro τ3 e3
  obtain ⟨I3, L3, W3, A3⟩ := st_a e3
  have H3 : xh_I τ3 = xh_I τ := I3.trans H2
  refine ⟨by rw [H3]; exact hv2, ?_⟩
  intro τ4 e4
  obtain ⟨I4, L4, W4, A4⟩ := st_a e4
  have H4 : xh_I τ4 = xh_I τ := I4.trans H3
  refine ⟨by rw [H4]; exact hv2, ?_⟩
  intro τ5 e5
  obtain ⟨I5, L5, W5, A5⟩ := st_a e5
  have H5 : xh_I τ5 = xh_I τ := I5.trans H4
  refine ⟨by rw [H5]; exact hv2, ?_⟩
  intro τ6 e6
  obtain ⟨I6, L6, W6, A6⟩ := st_a e6
  have H6 : xh_I τ6 = xh_I τ := I6.trans H5
  refine ⟨by rw [H6]; exact hv2, ?_⟩
  intro τ7 e7
  obtain ⟨I7, L7, W7, A7⟩ := st_a e7
  have H7 : xh_I τ7 = xh_I τ := I7.trans H6
  refine ⟨by rw [H7]; exact hv2, ?_⟩
  intro τ8 e8
  obtain ⟨I8, L8, W8, A8⟩ := st_a e8
  have H8 : xh_I τ8 = xh_I τ := I8.trans H7
  refine ⟨by rw [H8]; exact hv2, by unfold z_lb; split <;> simp, ?_⟩
  intro τ9 e9
  obtain ⟨I9, L9, W9, A9⟩ := st_a e9
  have H9 : xh_I τ9 = xh_I τ := I9.trans H8
  intro τ10 e10
  obtain ⟨A10, L10, W10, I10⟩ := st_I e10
  refine k _ ?_
  have hL : xh_L τ10 = xh_L τ := by rw [L10, L9, L8, L7, L6, L5, L4, L3, L2, L1]
  have hW : yw7 τ10 m (z_N S 9) ∧ xh_I τ10 498 m = z_F S 40 0 := ⟨W10 (W9 (W8 (W7 (W6 (W5 (W4 (W3 (W2 (W1 d1.1))))))))), by rw [I10, if_neg (by omega), H9]; exact d1.2⟩
  simp only [h1, hj, H1, H2, H3, H4, H5, H6, H7, H8, H9] at A1 A2 A3 A4 A5 A6 A7 A8 A9 I10
  have hA : ∀ k j, xh_a τ10 (m + k) j = if k = 35 ∧ j = fl.length then z_lb l else if k = 34 ∧ j = fl.length then l.2.2.2.2.2 else if k = 33 ∧ j = fl.length then l.2.2.2.2.1 else if k = 32 ∧ j = fl.length then zOI l.2.2.2.1 else if k = 31 ∧ j = fl.length then zOI l.2.2.1 else if k = 30 ∧ j = fl.length then z_lp l else if k = 29 ∧ j = fl.length then nI (w % 4) else if k = 28 ∧ j = fl.length then nI (w / 4) else if k = 27 ∧ j = fl.length then z_lk l else xh_a τ (m + k) j := by
    intro k j
    rw [A10, A9, A8, A7, A6, A5, A4, A3, A2, A1]
  have hout : ∀ k j, k < 27 ∨ 35 < k → xh_a τ10 (m + k) j = xh_a τ (m + k) j := by
    intro k j hk
    rw [hA]
    repeat rw [if_neg (by omega)]
  have hold : ∀ k j, j ≠ fl.length → xh_a τ10 (m + k) j = xh_a τ (m + k) j := by
    intro k j hjn
    rw [hA]
    repeat rw [if_neg (fun z => hjn z.2)]
  have hrow : zRow m τ10 fl.length w l := by
    refine ⟨?_, ?_, ?_, ?_, ?_, ?_, ?_, ?_, ?_⟩ <;> (rw [hA]; simp)
  have hI : ∀ g, g ≠ 478 → xh_I τ10 g m = xh_I τ g m := fun g hg => by rw [I10, if_neg hg]
  have hN : nI fl.length + 1 = nI (fl.length + 1) := nI_1 fl.length
  refine ⟨⟨hW, fun k j hk => ?_, ?_, ?_, ?_, ?_, ?_⟩, ⟨fl ++ [(w, l)], ?_, ?_, ?_⟩, zMk_congr hkk (fun j => hout 21 j (by omega)) (fun j => hout 22 j (by omega)) (hI _ (by omega)) rfl rfl rfl (fun _ => rfl), zMq_congr hq (fun k j a b => hout k j (by omega)) (hI _ (by omega)) rfl⟩
  · rw [hout k j (by unfold zDK at hk; omega)]; exact d2 k j hk
  · rw [hI _ (by omega)]; exact d3.1
  · rw [hI _ (by omega)]; exact d3.2.1
  · rw [hI _ (by omega)]; exact d3.2.2.1
  · rw [hI _ (by omega)]; exact d3.2.2.2.1
  · rw [hL]; exact d3.2.2.2.2
  · rw [I10, if_pos rfl, List.length_append, List.length_singleton, hN]
  · intro j w2 l2 hj2
    by_cases e : j < fl.length
    · rw [List.getElem?_append_left e] at hj2
      obtain ⟨a0, a1, a2, a3, a4, a5, a6, a7, a8, a9⟩ := h2 j w2 l2 hj2
      refine ⟨a0, ?_, ?_, ?_, ?_, ?_, ?_, ?_, ?_, ?_⟩ <;> (rw [hold _ _ (by omega)]; assumption)
    · rw [List.getElem?_append_right (by omega)] at hj2
      have e2 : j - fl.length < 1 := (List.getElem?_eq_some_iff.mp hj2).1
      have e3 : j = fl.length := by omega
      subst e3
      rw [Nat.sub_self] at hj2
      cases hj2
      exact ⟨hw, hrow⟩
  · intro v
    rw [filt_snoc, h3 v]
    show _ = va_up (z_W S) w (z_W S w ++ [l]) v
    unfold va_up
    by_cases e : v = w
    · subst e; simp
    · simp [e]
