/-! HEARING, the reference's -/
theorem st_L {τ τ2 : xS} {m f : Nat} {v : Int64} (e : τ2 = xs_L τ f m v) : xh_a τ2 = xh_a τ ∧ xh_I τ2 = xh_I τ := by
  subst e
  exact ⟨rfl, rfl⟩
theorem m_r2 {m : Nat} {τ τ2 : xS} {S : zS} {k0 c : Nat} {d : Int64} (h : zRM m τ S k0 c) (e : τ2 = xs_L τ 494 m (xh_L τ 494 m + d)) : zRM m τ2 (zs_r S (z_r S + d)) k0 c := by
  have h0 : xh_L τ 494 m = z_r S := h.1.2.2.2.2.2.2
  rw [e, h0]
  exact m_r h
theorem m_F2 {m : Nat} {τ τ2 : xS} {S : zS} {k0 c k i : Nat} {v : Int32} (h : zRM m τ S k0 c) (e : τ2 = xs_a τ (m + k) i v) (hk : zDK k := by unfold zDK; omega) (h16 : k ≠ 16 := by omega) : zRM m τ2 (zs_F S k i v) k0 c := by
  rw [e]; exact m_F h hk h16
theorem m_answer {m : Nat} {τ : xS} {S : zS} {c : Nat} {hand : Option Nat} {t : Nat} {st v : Int32} {Q : xS → Prop} (hR : zRM m τ S 0 c) (hI : zI S) (hf : zHf S hand) (ht : t < z_N S 0) (hh : xh_I τ 495 m = zOI hand) (k : ∀ τ2, zRM m τ2 (z_answer S hand t st v) 0 c → Q τ2) : wp_X7_answers τ m (nI t) st v Q := by
  have b := hI.1.1
  unfold wp_X7_answers
  rw [hh]
  cases hand with
  | none => exact ⟨fun _ => k τ hR, fun z => absurd (by show (-9 : Int32) < 0; decide) z⟩
  | some p =>
    obtain ⟨f1, f2, f3, f4⟩ := hf p rfl
    have hp := f1.1
    refine ⟨fun z => absurd z (nI_pos (by omega)), fun _ => ⟨vpI (by omega), ?_⟩⟩
    rw [cl40 (by omega), rdF hR (k := 1), (hI.1.2.1 t ht).1.1]
    exact m_settle hR hI (Nat.zero_le _) f1 f3 (hI.1.2.1 t ht).1.2 k
/-- what the reference has in hand -/
def zHd3 (m : Nat) (τ : xS) (hand : Option Nat) (act n : Int32) : Prop := xh_I τ 495 m = zOI hand ∧ xh_I τ 496 m = act ∧ xh_I τ 497 m = n
theorem m_cell1 {m : Nat} {τ τ1 : xS} {S : zS} {c : Nat} {hand : Option Nat} {t : Nat} {act n : Int32} {Q : xS → Prop} (hR : zRM m τ1 S 0 c) (hI : zI S) (hf : zHf S hand) (ht : t < z_N S 0) (hh : zHd3 m τ1 hand act n) (ea : xh_a τ = xh_a τ1) (k : ∀ τ2, zRM m τ2 (z_cell1 S hand t act n) 0 c → Q τ2) :
    (((xh_I τ1 496 m) = 0 → wp_X7_answers τ1 m (nI t) 1 (xh_a τ (m + 3) t) (fun σ5 => wb_X7_cell_168 Q σ5 m)) ∧ (¬ (xh_I τ1 496 m) = 0 → ((xh_I τ1 496 m) = 1 → vp_in (nI t) 40 ∧ ∀ σ8, σ8 = xs_a τ1 (m + 3) t (xh_I τ1 497 m) → (wp_X7_answers σ8 m (nI t) 1 (xh_a τ (m + 3) t) (fun σ9 => wb_X7_cell_168 Q σ9 m))) ∧ (¬ (xh_I τ1 496 m) = 1 → ((xh_I τ1 496 m) = 2 → vp_in (nI t) 40 ∧ ∀ σ12, σ12 = xs_a τ1 (m + 3) t ((xh_a τ (m + 3) t) + (xh_I τ1 497 m)) → (vp_in (nI t) 40 ∧ (wp_X7_answers σ12 m (nI t) 1 (xh_a σ12 (m + 3) t) (fun σ14 => wb_X7_cell_168 Q σ14 m)))) ∧ (¬ (xh_I τ1 496 m) = 2 → ((xh_I τ1 496 m) = 3 → vp_in (nI t) 40 ∧ ∀ σ17, σ17 = xs_a τ1 (m + 3) t ((xh_a τ (m + 3) t) - (xh_I τ1 497 m)) → (vp_in (nI t) 40 ∧ (wp_X7_answers σ17 m (nI t) 1 (xh_a σ17 (m + 3) t) (fun σ19 => wb_X7_cell_168 Q σ19 m)))) ∧ (¬ (xh_I τ1 496 m) = 3 → ((xh_I τ1 496 m) = 4 → wb_X7_cell_162 Q τ1 m (nI t)) ∧ (¬ (xh_I τ1 496 m) = 4 → ((xh_I τ1 496 m) = 5 → wb_X7_cell_162 Q τ1 m (nI t)) ∧ (¬ (xh_I τ1 496 m) = 5 → ((xh_I τ1 496 m) = 6 → wb_X7_cell_162 Q τ1 m (nI t)) ∧ (¬ (xh_I τ1 496 m) = 6 → ((xh_I τ1 496 m) = 7 → wp_X7_answers τ1 m (nI t) 2 (nI t) (fun σ24 => wb_X7_cell_168 Q σ24 m)) ∧ (¬ (xh_I τ1 496 m) = 7 → wb_X7_cell_162 Q τ1 m (nI t)))))))))) := by
  obtain ⟨hh1, hh2, hh3⟩ := hh
  have b := hI.1.1
  have hv : vp_in (nI t) 40 := vpI (by omega)
  rw [hh2, hh3, ea, rdF hR (k := 3)]
  have h3 : ∀ v τ2, τ2 = xs_a τ1 (m + 3) t v → zRM m τ2 (zs_F S 3 t v) 0 c ∧ xh_I τ2 495 m = zOI hand ∧ xh_a τ2 (m + 3) t = v := by
    intro v τ2 e
    have h := m_F2 hR e
    refine ⟨h, by rw [(st_a e).1]; exact hh1, ?_⟩
    rw [rdF h, zF_eq, if_pos ⟨rfl, rfl⟩]
  have br : ¬ act = 0 → ¬ act = 1 → ¬ act = 2 → ¬ act = 3 → ¬ act = 7 → wb_X7_cell_162 Q τ1 m (nI t) := by
    intro n0 n1 n2 n3 n7
    unfold z_cell1 at k
    rw [if_neg n0, if_neg n1, if_neg n2, if_neg n3, if_neg n7] at k
    exact m_answer hR hI hf ht hh1 k
  unfold z_cell1 at k
  refine ⟨fun e0 => ?_, fun n0 => ⟨fun e1 => ⟨hv, fun τ2 e => ?_⟩, fun n1 => ⟨fun e2 => ⟨hv, fun τ2 e => ⟨hv, ?_⟩⟩, fun n2 => ⟨fun e3 => ⟨hv, fun τ2 e => ⟨hv, ?_⟩⟩, fun n3 => ⟨fun e4 => br n0 n1 n2 n3 (by rw [e4]; decide), fun n4 => ⟨fun e5 => br n0 n1 n2 n3 (by rw [e5]; decide), fun n5 => ⟨fun e6 => br n0 n1 n2 n3 (by rw [e6]; decide), fun n6 => ⟨fun e7 => ?_, fun n7 => br n0 n1 n2 n3 n7⟩⟩⟩⟩⟩⟩⟩⟩
  · rw [if_pos e0] at k
    exact m_answer hR hI hf ht hh1 k
  · rw [if_neg n0, if_pos e1] at k
    obtain ⟨a1, a2, a3⟩ := h3 _ τ2 e
    exact m_answer a1 (I_3 hI) hf ht a2 k
  · rw [if_neg n0, if_neg n1, if_pos e2] at k
    obtain ⟨a1, a2, a3⟩ := h3 _ τ2 e
    rw [a3]
    exact m_answer a1 (I_3 hI) hf ht a2 k
  · rw [if_neg n0, if_neg n1, if_neg n2, if_pos e3] at k
    obtain ⟨a1, a2, a3⟩ := h3 _ τ2 e
    rw [a3]
    exact m_answer a1 (I_3 hI) hf ht a2 k
  · rw [if_neg n0, if_neg n1, if_neg n2, if_neg n3, if_pos e7] at k
    exact m_answer hR hI hf ht hh1 k
theorem zHd3_L {m f : Nat} {τ τ2 : xS} {hand : Option Nat} {act n : Int32} {v : Int64} (h : zHd3 m τ hand act n) (e : τ2 = xs_L τ f m v) : zHd3 m τ2 hand act n := by
  unfold zHd3
  rw [(st_L e).2]
  exact h
theorem m_cell {m : Nat} {τ : xS} {S : zS} {c : Nat} {hand : Option Nat} {t : Nat} {act n : Int32} {Q : xS → Prop} (hR : zRM m τ S 0 c) (hI : zI S) (hf : zHf S hand) (ht : t < z_N S 0) (hh : zHd3 m τ hand act n) (k : ∀ τ2, zRM m τ2 (z_cell S hand t act n) 0 c → Q τ2) : wp_X7_cell τ m (nI t) Q := by
  have b := hI.1.1
  unfold wp_X7_cell
  refine ⟨vpI (by omega), ?_⟩
  intro τ1 e1
  rw [cl40 (by omega)]
  unfold z_cell at k
  have hR1 := m_r2 hR e1
  generalize z_r S + 1 = rr at hR1 k
  exact m_cell1 hR1 (I_r hI) hf ht (zHd3_L hh e1) (st_L e1).1.symm k
theorem ile_nlt {a b : Int32} : (a ≤ b) ↔ ¬ b < a := by rw [Int32.le_iff_toInt_le, Int32.lt_iff_toInt_lt]; omega
theorem m_moves {m : Nat} {τ : xS} {S : zS} {c : Nat} {p t : Nat} {act n : Int32} {Q : xS → Prop} (hR : zRM m τ S 0 c) (hI : zI S) (hf : zHf S (some p)) (ht : t < z_N S 0) (h17 : z_F S 17 p = 4) (hh : zHd3 m τ (some p) act n) (k : ∀ τ2, zRM m τ2 (z_move S p t n) 0 c → Q τ2) : wp_X7_moves τ m (nI t) Q := by
  obtain ⟨hh1, hh2, hh3⟩ := hh
  have b := hI.1.1
  obtain ⟨f1, f2, f3, f4⟩ := hf p rfl
  have hp := f1.1
  have hv : vp_in (nI t) 40 := vpI (by omega)
  have hvp : vp_in (nI p) 100 := vpI (by omega)
  have hpc : (nI p).toNatClampNeg = p := cl40 (by omega)
  obtain ⟨o, ho, eo⟩ := (hI.1.2.2.1 p hp).2.2.2 h17
  obtain ⟨hs1, hs2⟩ := (hI.1.2.1 t ht).1
  have hh1' : xh_I τ 495 m = nI p := hh1
  have ans : ∀ st v, (∀ τ2, zRM m τ2 (z_settle S p (z_hs S t) st v) 0 c → Q τ2) → wp_X7_answers τ m (nI t) st v Q := fun st v kk => m_answer hR hI hf ht hh1 kk
  unfold wp_X7_moves
  rw [hh1', hpc, cl40 (show t < 1000 by omega), rdF hR (k := 19), eo, cl40 (show o < 1000 by omega), rdF hR (k := 2), rdF hR (k := 3), hh3, ile_nlt]
  unfold z_move at k
  rw [eo, cl40 (show o < 1000 by omega)] at k
  refine ⟨hvp, vpI (by omega), fun e1 => ⟨hv, fun e2 => ⟨hv, hv, ?_⟩, fun n2 => ?_⟩, fun n1 => ?_⟩
  · rw [if_neg (fun z => z e1), if_neg e2] at k
    intro τ1 E1
    have hR1 := m_F2 hR E1
    have i1 : xh_I τ1 495 m = nI p := by rw [(st_a E1).1]; exact hh1
    rw [i1, hpc]
    refine ⟨hvp, ?_⟩
    intro τ2 E2
    have hR2 := m_F2 hR1 E2
    have i2 : xh_I τ2 495 m = nI p := by rw [(st_a E2).1]; exact i1
    rw [i2, hpc]
    refine ⟨hvp, ?_⟩
    intro τ3 E3
    have hR3 := m_F2 hR2 E3
    have i3 : xh_I τ3 495 m = nI p := by rw [(st_a E3).1]; exact i2
    refine ⟨hv, ?_⟩
    rw [i3, rdF hR3 (k := 1), zF_ne (by decide), zF_ne (by decide), zF_ne (by decide), hs1]
    exact m_sendT hR3 (I_mv hI f1 f4 ht) (Nat.zero_le _) f1 hs2 ho k
  · rw [if_neg (fun z => z e1), if_pos (Decidable.not_not.mp n2)] at k
    exact ans 3 2 k
  · rw [if_pos n1] at k
    exact ans 3 3 k
