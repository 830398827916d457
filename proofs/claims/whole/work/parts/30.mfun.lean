/-! THE REFERENCE'S METHODS, over states -/
theorem cl40 {t : Nat} (h : t < 1000) : (nI t).toNatClampNeg = t := nI_clamp (by omega)
theorem wix {h g : Nat} : 4 * nI h + nI g = nI (4 * h + g) := by
  rw [show (4 : Int32) = nI 4 from rfl, pk_mul, nI_add]
theorem rdF {m : Nat} {τ : xS} {S : zS} {k0 c k i : Nat} (h : zRM m τ S k0 c) (hk : zDK k := by unfold zDK; omega) : xh_a τ (m + k) i = z_F S k i := h.1.2.1 k i hk
theorem m_sw {m : Nat} {τ : xS} {S : zS} {k0 c h t : Nat} {n : Int32} {Q : xS → Prop} (hR : zRM m τ S k0 c) (hV : zV S) (hc : z_cnt S < 400) (ht : t < z_N S 0) (hh : h < 4) (k : ∀ τ2, zRM m τ2 (z_sw S h t n) k0 c → Q τ2) : wp_X7_sendsWhen τ m (nI h) (nI t) n Q := by
  have b := hV.1
  have hs := (hV.2.1 t ht).1
  have e1 : xh_a τ (m + 1) (nI t).toNatClampNeg = nI (z_hs S t) := by rw [cl40 (by omega), rdF hR, hs.1]
  have e2 : 4 * nI h + nI (z_hs S t) = nI (4 * h + z_hs S t) := wix
  have e3 : (nI (4 * h + z_hs S t)).toNatClampNeg = 4 * h + z_hs S t := cl40 (by omega)
  unfold wp_X7_sendsWhen
  refine ⟨vpI (by omega), ?_⟩
  rw [e1, e2, e3]
  refine ⟨vpI (by omega), ?_⟩
  rw [rdF hR (k := 36)]
  unfold z_sw at k
  refine ⟨fun z => ⟨vpI (by omega), ?_⟩, fun z => ?_⟩
  · rw [if_pos z] at k
    have := m_post (l := (2, 0, some t, none, n, 0)) (w := 4 * h + z_hs S t) hR (by omega) hc k
    rw [show (4 * h + z_hs S t) / 4 = h by omega, show (4 * h + z_hs S t) % 4 = z_hs S t by omega] at this
    exact this
  · rw [if_neg z] at k
    exact k _ hR
theorem m_pw {m : Nat} {τ : xS} {S : zS} {k0 c w : Nat} {st v : Int32} {Q : xS → Prop} (hR : zRM m τ S k0 c) (hV : zV S) (hc : z_cnt S < 400) (hw : w < z_N S 2) (k : ∀ τ2, zRM m τ2 (z_pw S w st v) k0 c → Q τ2) : wp_X7_postsWhen τ m (nI w) st v Q := by
  have b := hV.1
  obtain ⟨p, h, t, -, -, hh, e24, -, ht, e25, -⟩ := hV.2.2.2.1 w hw
  have hv : vp_in (nI w) 40 := vpI (by omega)
  have hwc : (nI w).toNatClampNeg = w := cl40 (by omega)
  unfold wp_X7_postsWhen
  refine ⟨hv, ?_⟩
  rw [hwc]
  intro τ1 e1
  have hR1 : zRM m τ1 (zs_F S 26 w 1) k0 c := by rw [e1]; exact m_F hR (by unfold zDK; omega) (by omega)
  refine ⟨hv, hv, ?_⟩
  have a24 : xh_a τ1 (m + 24) w = nI h := by rw [rdF hR1, zF_ne (by decide), e24]
  have a25 : xh_a τ1 (m + 25) w = nI t := by rw [rdF hR1, zF_ne (by decide), e25]
  unfold z_pw at k
  rw [e24, e25, cl40 (by omega), cl40 (by omega)] at k
  have fin : ∀ n : Int32, (n = if st = 3 then -v else v) → wb_X7_postsWhen_31 Q τ1 m (xh_a τ1 (m + 24) w) (xh_a τ1 (m + 25) w) n := by
    intro n hn
    unfold wb_X7_postsWhen_31
    rw [a24, a25]
    exact m_sw (S := zs_F S 26 w 1) hR1 hV hc ht hh (fun τ2 h2 => k τ2 (by rw [← hn]; exact h2))
  exact ⟨fun z => fin _ (by rw [if_pos z]), fun z => fin _ (by rw [if_neg z])⟩
theorem m_pws {m : Nat} {τ : xS} {S : zS} {k0 c p h : Nat} {st v : Int32} {Q : xS → Prop} (hR : zRM m τ S k0 c) (hI : zI S) (hp : p < z_N S 1) (hh : h < 4) (hst : ¬ (if h = z_hm S p then z_F S 11 p = 0 else z_F S 13 p = 0)) (k : ∀ τ2, zRM m τ2 (z_pws S p h st v) k0 c → Q τ2) : wp_X7_postsWhens τ m (nI p) (nI h) st v Q := by
  have b := hI.1.1
  let f : zS → Nat → zS := fun S w => if z_F S 23 w = nI p ∧ z_F S 24 w = nI h ∧ z_F S 26 w = 0 then z_pw S w st v else S
  have key : ∀ (n j : Nat) (τ1 : xS) (S1 : zS), j ≤ z_N S 2 → z_N S 2 < j + n → zRM m τ1 S1 k0 c → zI S1 → zFw S S1 → ((List.range' j (z_N S 2 - j)).foldl f S1 = z_pws S p h st v) → wb_X7_postsWhens_3 Q m n τ1 (nI p) (nI h) st v (nI j) := by
    intro n
    induction n with
    | zero => intro j τ1 S1 h1 h2; omega
    | succ n ih =>
      intro j τ1 S1 h1 h2 hR1 hI1 hF hfold
      have hN : z_N S1 = z_N S := hF.1
      have hI3 : xh_I τ1 473 m = nI (z_N S 2) := by rw [hR1.1.2.2.2.2.1, hN]
      unfold wb_X7_postsWhens_3
      rw [hI3, nI_leI (by omega) (by omega)]
      refine ⟨fun z => ?_, fun z => ?_⟩
      · have : j = z_N S 2 := by omega
        subst this
        rw [Nat.sub_self] at hfold
        have e : S1 = z_pws S p h st v := hfold
        exact k τ1 (by rw [← e]; exact hR1)
      · have hj : j < z_N S 2 := by omega
        have hv : vp_in (nI j) 40 := vpI (by omega)
        have hjc : (nI j).toNatClampNeg = j := cl40 (by omega)
        have hj1 : nI j + 1 = nI (j + 1) := nI_1 j
        have hstep : (List.range' j (z_N S 2 - j)).foldl f S1 = (List.range' (j + 1) (z_N S 2 - (j + 1))).foldl f (f S1 j) := by
          rw [show z_N S 2 - j = (z_N S 2 - (j + 1)) + 1 by omega, List.range'_succ, List.foldl_cons]
        have go : ∀ τ2 S2, S2 = f S1 j → zRM m τ2 S2 k0 c → zI S2 → zFw S S2 → wb_X7_postsWhens_53 Q (fun σ l1 l2 l3 l4 l5 => wb_X7_postsWhens_3 Q m n σ l1 l2 l3 l4 l5) τ2 m (nI p) (nI h) st v (nI j) := by
          intro τ2 S2 e2 hR2 hI2 hF2
          unfold wb_X7_postsWhens_53
          rw [hj1]
          exact ih (j + 1) τ2 S2 (by omega) (by omega) hR2 hI2 hF2 (by rw [e2, ← hstep]; exact hfold)
        have no : ¬ (z_F S1 23 j = nI p ∧ z_F S1 24 j = nI h ∧ z_F S1 26 j = 0) → wb_X7_postsWhens_53 Q (fun σ l1 l2 l3 l4 l5 => wb_X7_postsWhens_3 Q m n σ l1 l2 l3 l4 l5) τ1 m (nI p) (nI h) st v (nI j) := fun z => go τ1 S1 (by show S1 = if _ then _ else _; rw [if_neg z]) hR1 hI1 hF
        refine ⟨hv, ?_⟩
        rw [hjc, rdF hR1 (k := 23)]
        refine ⟨fun y1 => ⟨hv, ?_⟩, fun y1 => no (fun z => y1 z.1)⟩
        rw [rdF hR1 (k := 24)]
        refine ⟨fun y2 => ⟨hv, ?_⟩, fun y2 => no (fun z => y2 z.2.1)⟩
        rw [rdF hR1 (k := 26)]
        refine ⟨fun y3 => ?_, fun y3 => no (fun z => y3 z.2.2)⟩
        have hst1 : ¬ (if h = z_hm S1 p then z_F S1 11 p = 0 else z_F S1 13 p = 0) := by
          have e1 : z_hm S1 p = z_hm S p := by unfold z_hm; rw [hF.2.1 10 (by decide)]
          rw [e1, hF.2.1 11 (by decide), hF.2.1 13 (by decide)]
          exact hst
        refine m_pw hR1 hI1.1 (by have := zI_cnt hI1; omega) (by rw [hN]; exact hj) (fun τ2 hR2 => ?_)
        exact go τ2 _ (by show _ = if _ then _ else _; rw [if_pos ⟨y1, y2, y3⟩]) hR2 (I_pw hI1 (by rw [hN]; exact hj) y3 y1 (by rw [hN]; exact hp) y2 hh hst1) (hF.tr zFw_pw)
  unfold wp_X7_postsWhens
  refine ⟨z_N S 2 + 1, ?_⟩
  have := key (z_N S 2 + 1) 0 τ S (by omega) (by omega) hR hI zFw.rf (by unfold z_pws; rw [Nat.sub_zero, ← List.range_eq_range'])
  rw [nI_0] at this
  exact this
theorem m_arr {m : Nat} {τ : xS} {S : zS} {k0 c p : Nat} {st v : Int32} {Q : xS → Prop} (hR : zRM m τ S k0 c) (hI : zI S) (hf : zFree S p) (h11 : ¬ z_F S 11 p = 0) (hz : zval S st v) (k : ∀ τ2, zRM m τ2 (z_arr S p st v) k0 c → Q τ2) : wp_X7_arrives τ m (nI p) st v Q := by
  have b := hI.1.1
  have hp := hf.1
  have hv : vp_in (nI p) 100 := vpI (by omega)
  have hpc : (nI p).toNatClampNeg = p := cl40 (by omega)
  have hak := (hI.1.2.2.1 p hp).1
  unfold wp_X7_arrives
  refine ⟨hv, ?_⟩
  rw [hpc]
  intro τ1 e1
  have hR1 : zRM m τ1 (zs_F S 13 p st) k0 c := by rw [e1]; exact m_F hR (by unfold zDK; omega) (by omega)
  refine ⟨hv, ?_⟩
  intro τ2 e2
  have hR2 : zRM m τ2 (zs_F (zs_F S 13 p st) 14 p v) k0 c := by rw [e2]; exact m_F hR1 (by unfold zDK; omega) (by omega)
  refine ⟨hv, ?_⟩
  have e9 : xh_a τ2 (m + 9) p = nI (z_ak S p) := by rw [rdF hR2, zF_ne (by decide), zF_ne (by decide), hak.1]
  rw [e9]
  have h1 : zI (zs_F (zs_F S 13 p st) 14 p v) := I_14 (I_13 hI hf h11 (zval_ne hz))
  refine m_pws hR2 h1 hp hak.2 ?_ k
  show ¬ (if z_ak S p = z_hm S p then z_F S 11 p = 0 else z_F (zs_F (zs_F S 13 p st) 14 p v) 13 p = 0)
  by_cases e : z_ak S p = z_hm S p
  · rw [if_pos e]; exact h11
  · rw [if_neg e, zF_ne (by decide), zF_eq, if_pos ⟨rfl, rfl⟩]
    exact zval_ne hz
