theorem m_purse {m : Nat} {τ : xS} {S : zS} {c : Nat} {hand : Option Nat} {t : Nat} {act n : Int32} {Q : xS → Prop} (hR : zRM m τ S 0 c) (hI : zI S) (hf : zHf S hand) (ht : t < z_N S 0) (ha : ∀ p, hand = some p → z_F S 17 p = act) (hw : hand = none → act = 2) (hh : zHd3 m τ hand act n) (k : ∀ τ2, zRM m τ2 (z_purse S hand t act n) 0 c → Q τ2) : wp_X7_purse τ m (nI t) Q := by
  have b := hI.1.1
  have hv : vp_in (nI t) 40 := vpI (by omega)
  unfold wp_X7_purse
  intro τ1 e1
  unfold z_purse at k
  have hR1 := m_r2 hR e1
  generalize z_r S + 10 = rr at hR1 k
  have hI1 : zI (zs_r S rr) := I_r hI
  have hh1 := zHd3_L hh e1
  obtain ⟨g1, g2, g3⟩ := hh1
  have b100 : ¬ (act = 1 ∨ ((act = 2 ∨ act = 3 ∨ act = 4) ∧ n < 0)) → ¬ (act = 3 ∧ z_F (zs_r S rr) 3 t < n) → wb_X7_purse_100 Q τ1 m (nI t) := by
    intro n1 n2
    unfold z_purse1 at k
    rw [if_neg n1, if_neg n2] at k
    unfold wb_X7_purse_100
    rw [g2]
    refine ⟨fun e4 => ?_, fun n4 => ?_⟩
    · rw [if_pos e4] at k
      cases hand with
      | none => exact absurd (hw rfl) (by rw [e4]; decide)
      | some p => exact m_moves hR1 hI1 hf ht ((ha p rfl).trans e4) ⟨g1, g2, g3⟩ k
    · rw [if_neg n4] at k
      exact m_cell hR1 hI1 hf ht ⟨g1, g2, g3⟩ k
  have b70 : ¬ (act = 1 ∨ ((act = 2 ∨ act = 3 ∨ act = 4) ∧ n < 0)) → wb_X7_purse_70 Q τ1 m (nI t) := by
    intro n1
    unfold wb_X7_purse_70
    rw [g2, g3, cl40 (by omega), rdF hR1 (k := 3), ile_nlt]
    refine ⟨fun e3 => ⟨hv, fun z => b100 n1 (fun y => z y.2), fun z => ?_⟩, fun n3 => b100 n1 (fun y => n3 y.1)⟩
    unfold z_purse1 at k
    rw [if_neg n1, if_pos ⟨e3, Decidable.not_not.mp z⟩] at k
    exact m_answer hR1 hI1 hf ht g1 k
  have b61 : (act = 1 ∨ ((act = 2 ∨ act = 3 ∨ act = 4) ∧ n < 0)) → wb_X7_purse_61 Q τ1 m (nI t) := by
    intro y1
    unfold z_purse1 at k
    rw [if_pos y1] at k
    exact m_answer hR1 hI1 hf ht g1 k
  have b36 : (act = 2 ∨ act = 3 ∨ act = 4) → wb_X7_purse_36 Q τ1 m (nI t) := by
    intro y
    unfold wb_X7_purse_36 wb_X7_purse_41
    rw [g2, g3, ile_nlt]
    refine ⟨fun e1 => b61 (Or.inl e1), fun n1 => ⟨fun z => absurd z (by decide), fun _ => ⟨fun z => b70 ?_, fun z => b61 (Or.inr ⟨y, Decidable.not_not.mp z⟩)⟩⟩⟩
    rintro (h | h)
    · exact n1 h
    · exact z h.2
  rw [g2]
  refine ⟨fun e => b36 (Or.inl e), fun n2 => ⟨fun e => b36 (Or.inr (Or.inl e)), fun n3 => ⟨fun e => b36 (Or.inr (Or.inr e)), fun n4 => ?_⟩⟩⟩
  unfold wb_X7_purse_41
  rw [g2]
  refine ⟨fun e1 => b61 (Or.inl e1), fun n1 => ⟨fun _ => b70 ?_, fun z => absurd rfl z⟩⟩
  rintro (h | ⟨h | h | h, -⟩)
  · exact n1 h
  · exact n2 h
  · exact n3 h
  · exact n4 h
theorem m_N0 {m : Nat} {τ τ2 : xS} {S : zS} {k0 c n : Nat} (h : zRM m τ S k0 c) (e : τ2 = xs_I τ 448 m (nI n)) : zRM m τ2 (zs_N S 0 n) k0 c := by
  obtain ⟨⟨d1, d2, d3, d4, d5, d6, d7⟩, ⟨fl, hl⟩, hkk, hq⟩ := h
  obtain ⟨A, L, W, I⟩ := st_I e
  have hI2 : ∀ g, g ≠ 448 → xh_I τ2 g m = xh_I τ g m := fun g hg => by rw [I, if_neg hg]
  refine ⟨⟨⟨W d1.1, by rw [hI2 _ (by omega)]; exact d1.2⟩, fun k2 i hk2 => by rw [A]; exact d2 k2 i hk2, by rw [I, if_pos rfl]; rfl, by rw [hI2 _ (by omega)]; exact d4, by rw [hI2 _ (by omega)]; exact d5, by rw [hI2 _ (by omega)]; exact d6, by rw [L]; exact d7⟩, ⟨fl, zMl_congr hl (fun _ _ _ _ => by rw [A]) (hI2 _ (by omega)) rfl⟩, zMk_congr hkk (fun _ => by rw [A]) (fun _ => by rw [A]) (hI2 _ (by omega)) rfl rfl rfl (fun _ => rfl), zMq_congr hq (fun _ _ _ _ => by rw [A]) (hI2 _ (by omega)) rfl⟩
theorem m_comes {m : Nat} {τ : xS} {S : zS} {k0 c : Nat} {h k n g a : Int32} {Q : Int32 → xS → Prop} (hR : zRM m τ S k0 c) (hN : z_N S 0 < 40) (kk : ∀ τ2, zRM m τ2 (z_new S h k n g a) k0 c → (∀ f, 495 ≤ f → xh_I τ2 f m = xh_I τ f m) → Q (nI (z_N S 0)) τ2) : wp_X7_comes τ m h k n g a Q := by
  have i0 : xh_I τ 448 m = nI (z_N S 0) := hR.1.2.2.1
  have hv : vp_in (nI (z_N S 0)) 40 := vpI hN
  have hc : (nI (z_N S 0)).toNatClampNeg = z_N S 0 := cl40 (by omega)
  unfold wp_X7_comes
  rw [i0, hc]
  refine ⟨hv, ?_⟩
  intro τ1 e1
  have I1 := (st_a e1).1
  have R1 := m_F2 hR e1
  rw [I1, i0, hc]
  refine ⟨hv, ?_⟩
  intro τ2 e2
  have I2 := (st_a e2).1.trans I1
  have R2 := m_F2 R1 e2
  rw [I2, i0, hc]
  refine ⟨hv, ?_⟩
  intro τ3 e3
  have I3 := (st_a e3).1.trans I2
  have R3 := m_F2 R2 e3
  rw [I3, i0, hc]
  refine ⟨hv, ?_⟩
  intro τ4 e4
  have I4 := (st_a e4).1.trans I3
  have R4 := m_F2 R3 e4
  rw [I4, i0, hc]
  refine ⟨hv, ?_⟩
  intro τ5 e5
  have I5 := (st_a e5).1.trans I4
  have R5 := m_F2 R4 e5
  rw [I5, i0, hc]
  refine ⟨hv, ?_⟩
  intro τ6 e6
  have I6 := (st_a e6).1.trans I5
  have R6 := m_F2 R5 e6
  rw [I6, i0, hc]
  refine ⟨hv, ?_⟩
  intro τ7 e7
  have I7 := (st_a e7).1.trans I6
  have R7 := m_F2 R6 e7
  rw [I7, i0, hc]
  refine ⟨hv, ?_⟩
  intro τ8 e8
  have I8 := (st_a e8).1.trans I7
  have R8 := m_F2 R7 e8
  rw [I8, i0, show nI (z_N S 0) + 1 = nI (z_N S 0 + 1) from nI_1 _]
  intro τ9 e9
  have R9 := m_N0 R8 e9
  obtain ⟨A9, L9, W9, I9⟩ := st_I e9
  rw [I9, if_pos rfl, nI_pred]
  exact kk τ9 R9 (fun f hf => by rw [I9, if_neg (by omega), I8])
theorem m_in {τ : xS} {v lo hi : Int32} {Q : Int32 → Prop} (h0 : (v < lo ∨ hi < v) → Q 0) (h1 : ¬ (v < lo ∨ hi < v) → Q 1) : wp_X7_in τ v lo hi Q := by
  unfold wp_X7_in wb_X7_in_14 wb_X7_in_15
  refine ⟨fun a => ⟨Or.inl rfl, h0 (Or.inl a)⟩, fun a => ⟨fun b => ⟨Or.inl rfl, h0 (Or.inr b)⟩, fun b => ⟨Or.inr rfl, h1 ?_⟩⟩⟩
  rintro (z | z)
  · exact a z
  · exact b z
theorem m_maker {m : Nat} {τ : xS} {S : zS} {c : Nat} {hand : Option Nat} {t : Nat} {act n : Int32} {Q : xS → Prop} (hR : zRM m τ S 0 c) (hI : zI S) (hf : zHf S hand) (ht : t < z_N S 0) (hh : zHd3 m τ hand act n) (k : ∀ τ2, zRM m τ2 (z_maker S hand t act n) 0 c → Q τ2) : wp_X7_maker τ m (nI t) Q := by
  have b := hI.1.1
  have hv : vp_in (nI t) 40 := vpI (by omega)
  unfold wp_X7_maker
  intro τ1 e1
  unfold z_maker at k
  have hR1 := m_r2 hR e1
  generalize z_r S + 100 = rr at hR1 k
  have hI1 : zI (zs_r S rr) := I_r hI
  obtain ⟨g1, g2, g3⟩ := zHd3_L hh e1
  have i0 : xh_I τ1 448 m = nI (z_N S 0) := hR1.1.2.2.1
  have br : ¬ act = 0 → ¬ act = 7 → (¬ act = 5 ∨ n < 0 ∨ 2 < n) → wb_X7_maker_73 Q τ1 m (nI t) := by
    intro n0 n7 y
    unfold z_maker1 at k
    rw [if_neg n0, if_neg n7, if_pos y] at k
    exact m_answer hR1 hI1 hf ht g1 k
  rw [g2, g3, i0, cl40 (by omega), rdF hR1 (k := 3)]
  refine ⟨fun e0 => ⟨hv, ?_⟩, fun n0 => ⟨fun e7 => ?_, fun n7 => ⟨fun e5 => ?_, fun n5 => br n0 n7 (Or.inl n5)⟩⟩⟩
  · unfold z_maker1 at k
    rw [if_pos e0] at k
    exact m_answer hR1 hI1 hf ht g1 k
  · unfold z_maker1 at k
    rw [if_neg n0, if_pos e7] at k
    exact m_answer hR1 hI1 hf ht g1 k
  · refine m_in (fun y => ⟨fun _ => br n0 n7 (Or.inr y), fun z => absurd rfl z⟩) (fun y => ⟨fun z => absurd z (by decide), fun _ => ?_⟩)
    unfold z_maker1 at k
    have y2 : ¬ (¬ act = 5 ∨ n < 0 ∨ 2 < n) := by
      rintro (z | z)
      · exact z e5
      · exact y z
    rw [if_neg n0, if_neg n7, if_neg y2] at k
    rw [show (40 : Int32) = nI 40 from rfl, nI_eq (by omega) (by omega)]
    refine ⟨fun e40 => ?_, fun n40 => ⟨hv, hv, ?_⟩⟩
    · rw [if_pos (show z_N (zs_r S rr) 0 = 40 from e40)] at k
      exact m_answer hR1 hI1 hf ht g1 k
    · rw [if_neg (show ¬ z_N (zs_r S rr) 0 = 40 from n40)] at k
      obtain ⟨hs1, hs2⟩ := (hI.1.2.1 t ht).1
      obtain ⟨k2, hk2, ek⟩ := i_le2 y
      intro τ2 e2
      have hR2 := m_F2 hR1 e2
      have I2 := (st_a e2).1
      refine ⟨hv, ?_⟩
      rw [I2, g3, rdF hR2 (k := 1), zF_ne (by decide)]
      have hN : z_N S 0 < 40 := by omega
      have hI2 : zI (zs_F (zs_r S rr) 3 t (z_F (zs_r S rr) 3 t + 1)) := I_3 hI1
      refine m_comes hR2 hN (fun τ3 hR3 i3 => ?_)
      have h4 := I_new (h := z_hs S t) (k := k2) (n := 0) (a := 0) (g := none) hI2 hN hs2 (by omega) (fun z => by omega) (fun _ => rfl)
      rw [← hs1, ← ek] at h4
      exact m_answer hR3 h4 (zHf_new hf) (show t < z_N S 0 + 1 by omega) (by rw [i3 495 (by omega), I2]; exact g1) k
