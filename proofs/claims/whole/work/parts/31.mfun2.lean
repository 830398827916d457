theorem m_due2 {m : Nat} {τ : xS} {S : zS} {k0 c p : Nat} {st v : Int32} {Q : xS → Prop} (hR : zRM m τ S k0 c) (hI : zI S) (hk : k0 ≤ z_done S) (k : ∀ τ2, zRM m τ2 (z_due S p st v) k0 c → Q τ2) : wp_X7_isToBeDone τ m (nI p) st v Q := m_due hR (by have := zI_due hI; omega) k
theorem done_congr {S S2 : zS} (hN : z_N S2 1 = z_N S 1) (hF : ∀ p, z_F S2 11 p = z_F S 11 p) : z_done S2 = z_done S := by
  unfold z_done
  rw [hN]
  simp only [hF]
theorem done_le {S S2 : zS} {k0 : Nat} (h : k0 ≤ z_done S) (hN : z_N S2 1 = z_N S 1) (hF : ∀ p, z_F S2 11 p = z_F S 11 p) : k0 ≤ z_done S2 := by rw [done_congr hN hF]; exact h
theorem m_ansH {m : Nat} {τ : xS} {S : zS} {k0 c p h : Nat} {st v : Int32} {Q : xS → Prop} (hR : zRM m τ S k0 c) (hI : zI S) (hk : k0 ≤ z_done S) (hp : p < z_N S 1) (hh : h < 4) (k : ∀ τ2, zRM m τ2 (z_ansH S h p st v) k0 c → Q τ2) : wp_X7_sendsAnswer τ m (nI h) (nI p) st v 0 Q := by
  have b := hI.1.1
  have hv : vp_in (nI p) 100 := vpI (by omega)
  have hpc : (nI p).toNatClampNeg = p := cl40 (by omega)
  have hm := (hI.1.2.2.1 p hp).2.1
  unfold wp_X7_sendsAnswer
  refine ⟨fun _ => ⟨hv, ?_⟩, fun z => absurd rfl z⟩
  rw [hpc, rdF hR (k := 10), hm.1]
  unfold wb_X7_sendsAnswer_20
  refine ⟨hv, hv, ?_⟩
  rw [hpc, rdF hR (k := 15)]
  intro τ1 e1
  have hR1 : zRM m τ1 (zs_F S 15 p (z_F S 15 p + 1)) k0 c := by rw [e1]; exact m_F hR (by unfold zDK; omega) (by omega)
  rw [wix, cl40 (by omega), rdF hR1 (k := 36), zF_ne (by decide)]
  unfold z_ansH at k
  refine ⟨vpI (by omega), fun z => ?_, fun z => ?_⟩
  · rw [if_pos z] at k
    have := m_post (l := (1, p, none, none, st, v)) (w := 4 * h + z_hm S p) (Q := fun σ6 => wb_X7_sendsAnswer_76 Q σ6 m) hR1 (by omega) (by have := zI_cnt (I_15 (i := p) (v := z_F S 15 p + 1) hI); omega) k
    rw [show (4 * h + z_hm S p) / 4 = h by omega, show (4 * h + z_hm S p) % 4 = z_hm S p by omega] at this
    exact this
  · rw [if_neg z] at k
    unfold wp_X7_comesBack
    refine ⟨fun _ => ?_, fun y => absurd rfl y⟩
    exact m_due2 hR1 (I_15 hI) (done_le hk rfl (fun _ => rfl)) k
theorem m_ansA {m : Nat} {τ : xS} {S : zS} {k0 c p h : Nat} {st v : Int32} {Q : xS → Prop} (hR : zRM m τ S k0 c) (hI : zI S) (hf : zFree S p) (h11 : ¬ z_F S 11 p = 0) (hh : h < 4) (k : ∀ τ2, zRM m τ2 (z_ansA S h p st v) k0 c → Q τ2) : wp_X7_sendsAnswer τ m (nI h) (nI p) st v 1 Q := by
  have b := hI.1.1
  have hp := hf.1
  have hv : vp_in (nI p) 100 := vpI (by omega)
  have hpc : (nI p).toNatClampNeg = p := cl40 (by omega)
  have hm := (hI.1.2.2.1 p hp).1
  unfold wp_X7_sendsAnswer
  refine ⟨fun z => absurd z (by decide), fun _ => ⟨hv, ?_⟩⟩
  rw [hpc, rdF hR (k := 9), hm.1]
  unfold wb_X7_sendsAnswer_20
  refine ⟨hv, hv, ?_⟩
  rw [hpc, rdF hR (k := 15)]
  intro τ1 e1
  have hR1 : zRM m τ1 (zs_F S 15 p (z_F S 15 p + 1)) k0 c := by rw [e1]; exact m_F hR (by unfold zDK; omega) (by omega)
  rw [wix, cl40 (by omega), rdF hR1 (k := 36), zF_ne (by decide)]
  unfold z_ansA at k
  refine ⟨vpI (by omega), fun z => ?_, fun z => ?_⟩
  · rw [if_pos z] at k
    have := m_post (l := (3, p, none, none, st, v)) (w := 4 * h + z_ak S p) (Q := fun σ6 => wb_X7_sendsAnswer_76 Q σ6 m) hR1 (by omega) (by have := zI_cnt (I_15 (i := p) (v := z_F S 15 p + 1) hI); omega) k
    rw [show (4 * h + z_ak S p) / 4 = h by omega, show (4 * h + z_ak S p) % 4 = z_ak S p by omega] at this
    exact this
  · rw [if_neg z] at k
    unfold wp_X7_comesBack
    refine ⟨fun y => absurd y (by decide), fun _ => ?_⟩
    exact m_arr (S := zs_F S 15 p (z_F S 15 p + 1)) hR1 (I_15 hI) hf h11 (Or.inr (Or.inr rfl)) k
theorem m_settle {m : Nat} {τ : xS} {S : zS} {k0 c p h : Nat} {st v : Int32} {Q : xS → Prop} (hR : zRM m τ S k0 c) (hI : zI S) (hk : k0 ≤ z_done S) (hf : zFree S p) (h20 : z_F S 20 p < 0) (hh : h < 4) (k : ∀ τ2, zRM m τ2 (z_settle S p h st v) k0 c → Q τ2) : wp_X7_settles τ m (nI p) (nI h) st v Q := by
  have b := hI.1.1
  have hp := hf.1
  have hv : vp_in (nI p) 100 := vpI (by omega)
  have hpc : (nI p).toNatClampNeg = p := cl40 (by omega)
  have hm := (hI.1.2.2.1 p hp).2.1
  unfold wp_X7_settles
  refine ⟨hv, ?_⟩
  rw [hpc]
  intro τ1 e1
  have hR1 : zRM m τ1 (z_w S p 0) k0 c := by rw [e1]; exact m_w hR hp (by decide) (by decide)
  have hI1 := (I_w (v := 0) hI hf (Or.inl rfl) (fun _ => h20)).1
  have hk1 : k0 ≤ z_done (z_w S p 0) := done_le hk rfl (fun _ => rfl)
  refine ⟨hv, ?_⟩
  rw [rdF hR1 (k := 10), zF_wn (by omega), hm.1, nI_eq (by omega) (by omega)]
  unfold z_settle at k
  refine ⟨fun z => ?_, fun z => ?_⟩
  · rw [if_pos z] at k
    exact m_due2 hR1 hI1 hk1 k
  · rw [if_neg z] at k
    exact m_ansH hR1 hI1 hk1 hp hh k
theorem m_lose {m : Nat} {τ : xS} {S : zS} {k0 c p h : Nat} {Q : xS → Prop} (hR : zRM m τ S k0 c) (hI : zI S) (hk : k0 ≤ z_done S) (hf : zFree S p) (hh : h < 4) (k : ∀ τ2, zRM m τ2 (z_lose S p h) k0 c → Q τ2) : wp_X7_losesMessage τ m (nI p) (nI h) Q := by
  have b := hI.1.1
  have hp := hf.1
  have hv : vp_in (nI p) 100 := vpI (by omega)
  have hpc : (nI p).toNatClampNeg = p := cl40 (by omega)
  obtain ⟨hI1, h20⟩ := I_unmove (p := p) hI
  have h3 := unmove_11 (S := S) (p := p)
  have hk1 : k0 ≤ z_done (z_unmove S p) := by
    rw [done_congr (S := S) (by rw [(zFr_unmove (p := p) (S := S)).1]) (fun q => by rw [h3.1])]
    exact hk
  unfold wp_X7_losesMessage
  refine ⟨hv, ?_⟩
  rw [hpc, rdF hR (k := 20)]
  have fin : ∀ τ2, zRM m τ2 (z_unmove S p) k0 c → wb_X7_losesMessage_36 Q τ2 m (nI p) (nI h) := by
    intro τ2 hR2
    unfold wb_X7_losesMessage_36
    exact m_settle hR2 hI1 hk1 (h3.2 p hf) h20 hh k
  refine ⟨fun z => fin τ (by unfold z_unmove; rw [if_pos z]; exact hR), fun z => ⟨hv, ?_⟩⟩
  rcases hI.2.2.2.2.2.2.2.2.2.2.1 p hp with y | ⟨-, t, ht, et⟩
  · exact absurd y z
  have hvt : vp_in (nI t) 40 := vpI (by omega)
  have htc : (nI t).toNatClampNeg = t := cl40 (by omega)
  rw [et, htc]
  refine ⟨hvt, hv, hvt, ?_⟩
  rw [rdF hR (k := 3), rdF hR (k := 18)]
  intro τ1 e1
  have hR1 : zRM m τ1 (zs_F S 3 t (z_F S 3 t + z_F S 18 p)) k0 c := by rw [e1]; exact m_F hR (by unfold zDK; omega) (by omega)
  refine ⟨hv, ?_⟩
  intro τ2 e2
  refine fin τ2 ?_
  unfold z_unmove
  rw [if_neg z, et, htc, e2]
  exact m_F hR1 (by unfold zDK; omega) (by omega)
theorem m_send {m : Nat} {τ : xS} {S : zS} {k0 c p h g : Nat} {th asked : Option Nat} {Q : xS → Prop} (hR : zRM m τ S k0 c) (hI : zI S) (hk : k0 ≤ z_done S) (hf : zFree S p) (hh : h < 4) (hg : g < 4) (k : ∀ τ2, zRM m τ2 (z_send S p h g th asked) k0 c → Q τ2) : wp_X7_sends τ m (nI p) (nI h) (nI g) (zOI th) (zOI asked) Q := by
  have b := hI.1.1
  have hp := hf.1
  have hv : vp_in (nI p) 100 := vpI (by omega)
  have hpc : (nI p).toNatClampNeg = p := cl40 (by omega)
  unfold wp_X7_sends
  refine ⟨hv, hv, ?_⟩
  rw [hpc, rdF hR (k := 15)]
  intro τ1 e1
  have hR1 : zRM m τ1 (zs_F S 15 p (z_F S 15 p + 1)) k0 c := by rw [e1]; exact m_F hR (by unfold zDK; omega) (by omega)
  have hI1 : zI (zs_F S 15 p (z_F S 15 p + 1)) := I_15 hI
  rw [wix, cl40 (by omega), rdF hR1 (k := 36), zF_ne (by decide)]
  unfold z_send at k
  refine ⟨vpI (by omega), fun z => ⟨hv, ?_⟩, fun z => ?_⟩
  · rw [if_pos z] at k
    intro τ2 e2
    have hR2 : zRM m τ2 (z_w (zs_F S 15 p (z_F S 15 p + 1)) p 3) k0 c := by rw [e2]; exact m_w hR1 hp (by decide) (by decide)
    have hI2 := (I_w (S := zs_F S 15 p (z_F S 15 p + 1)) (p := p) (v := 3) hI1 hf (Or.inr rfl) (fun z => absurd z (by decide))).1
    have := m_post (l := (0, p, th, asked, 0, 0)) (w := 4 * h + g) (Q := fun σ6 => wb_X7_sends_54 Q σ6 m) hR2 (by omega) (by have := zI_cnt hI2; omega) k
    rw [show (4 * h + g) / 4 = h by omega, show (4 * h + g) % 4 = g by omega] at this
    exact this
  · rw [if_neg z] at k
    exact m_lose (S := zs_F S 15 p (z_F S 15 p + 1)) hR1 hI1 (done_le hk rfl (fun _ => rfl)) hf hh k
theorem m_sendT {m : Nat} {τ : xS} {S : zS} {k0 c p h t : Nat} {Q : xS → Prop} (hR : zRM m τ S k0 c) (hI : zI S) (hk : k0 ≤ z_done S) (hf : zFree S p) (hh : h < 4) (ht : t < z_N S 0) (k : ∀ τ2, zRM m τ2 (z_sendT S p h t) k0 c → Q τ2) : wp_X7_sendsToThing τ m (nI p) (nI h) (nI t) Q := by
  have b := hI.1.1
  have hs := (hI.1.2.1 t ht).1
  unfold wp_X7_sendsToThing
  refine ⟨vpI (by omega), ?_⟩
  rw [cl40 (by omega), rdF hR (k := 1), hs.1]
  exact m_send (th := some t) (asked := none) hR hI hk hf hh hs.2 k
theorem m_go {m : Nat} {τ : xS} {S : zS} {k0 c p h : Nat} {st v : Int32} {Q : xS → Prop} (hR : zRM m τ S k0 c) (hI : zI S) (hk : k0 ≤ z_done S) (hf : zFree S p) (h20 : z_F S 20 p < 0) (hz : zval S st v) (hh : h < 4) (k : ∀ τ2, zRM m τ2 (z_go S p h st v) k0 c → Q τ2) : wp_X7_goesOn τ m (nI p) (nI h) st v Q := by
  have b := hI.1.1
  unfold wp_X7_goesOn
  unfold z_go at k
  refine ⟨fun z => ?_, fun z => ?_⟩
  · rw [if_pos z] at k
    rcases hz with y | ⟨-, t, ht, ev⟩ | y
    · rw [y] at z; exact absurd z (by decide)
    · rw [ev, cl40 (by omega)] at k
      rw [ev]
      exact m_sendT hR hI hk hf hh ht k
    · rw [y] at z; exact absurd z (by decide)
  · rw [if_neg z] at k
    refine ⟨fun y => ?_, fun y => ?_⟩
    · rw [if_pos y] at k
      exact m_settle hR hI hk hf h20 hh k
    · rw [if_neg y] at k
      exact m_settle hR hI hk hf h20 hh k
