theorem m_sumloop {m : Nat} {τ : xS} {S : zS} {c t : Nat} {Q : xS → Prop} (hR : zRM m τ S 0 c) (hI : zI S) (ht : t < z_N S 0) (k : wp_X7_answersAll τ m (nI t) (z_sumN S (z_H S t)) (fun _ σ3 => wb_X7_joiner_149 Q σ3 m)) : ∃ m45, wb_X7_joiner_45 Q m m45 τ (nI t) 0 0 := by
  have b := hI.1.1
  have hN : xh_I τ 457 m = nI (z_N S 1) := hR.1.2.2.2.1
  obtain ⟨-, -, ⟨kb, sn, h1, -, h3, -, -, -, -, h8⟩, -⟩ := id hR
  let g : Int32 → Nat → Int32 := fun s p => s + (if p ∈ z_H S t then z_F S 18 p else 0)
  have e0 : z_sumN S (z_H S t) = (List.range (z_N S 1)).foldl g 0 := sum_perm (z_F S 18) (z_N S 1) (z_H S t) (hI.2.2.2.2.2.1.1 t) (fun p hp => (hI.2.2.2.2.1 t p hp).2.1)
  have key : ∀ (n j : Nat), j ≤ z_N S 1 → z_N S 1 < j + n → wb_X7_joiner_45 Q m n τ (nI t) ((List.range j).foldl g 0) (nI j) := by
    intro n
    induction n with
    | zero => intro j h1 h2; omega
    | succ n ih =>
      intro j hj1 hj2
      unfold wb_X7_joiner_45
      rw [hN, nI_leI (by omega) (by omega)]
      refine ⟨fun z => ?_, fun z => ?_⟩
      · have : j = z_N S 1 := by omega
        rw [this, ← e0]
        exact k
      · have hv : vp_in (nI j) 100 := vpI (by omega)
        have hstep : (List.range (j + 1)).foldl g 0 = (List.range j).foldl g 0 + (if j ∈ z_H S t then z_F S 18 j else 0) := by
          rw [List.range_succ, List.foldl_append, List.foldl_cons, List.foldl_nil]
        have hmem : j ∈ z_H S t ↔ z_F S 16 j = 1 ∧ kb j = t := by rw [h3 t j]; exact ⟨fun y => y.2, fun y => ⟨by omega, y⟩⟩
        have fin := ih (j + 1) (by omega) (by omega)
        rw [← nI_1, hstep] at fin
        have no : ¬ j ∈ z_H S t → wb_X7_joiner_83 Q (fun σ l1 l2 l3 => wb_X7_joiner_45 Q m n σ l1 l2 l3) τ m (nI t) (nI j) ((List.range j).foldl g 0) := by
          intro y
          rw [if_neg y] at fin
          exact fin
        rw [cl40 (by omega), rdF hR (k := 16), rdF hR (k := 18), (h1 j).1, nI_eq (by have := (h8 j).1; omega) (by omega)]
        refine ⟨hv, fun y1 => ⟨hv, fun y2 => ⟨hv, ?_⟩, fun y2 => no (fun y => y2 (hmem.mp y).2)⟩, fun y1 => no (fun y => y1 (hmem.mp y).1)⟩
        rw [if_pos (hmem.mpr ⟨y1, y2⟩)] at fin
        exact fin
  refine ⟨z_N S 1 + 1, ?_⟩
  have := key (z_N S 1 + 1) 0 (by omega) (by omega)
  rw [nI_0] at this
  exact this
-- what the trace does not touch
theorem r_Hf {S : zS} {r : Int64} {hand : Option Nat} (h : zHf S hand) : zHf (zs_r S r) hand := h
theorem r_lt {S : zS} {r : Int64} {t : Nat} (h : t < z_N S 0) : t < z_N (zs_r S r) 0 := h
theorem r_k2 {S : zS} {r : Int64} {t : Nat} {a b : Int32} (h : z_F S 2 t = a ∨ z_F S 2 t = b) : z_F (zs_r S r) 2 t = a ∨ z_F (zs_r S r) 2 t = b := h
theorem m_joiner1 {m : Nat} {τ1 : xS} {S : zS} {c : Nat} {hand : Option Nat} {t : Nat} {act n : Int32} {Q : xS → Prop} (hc : c + 1 < 2 ^ 31) (hR1 : zRM m τ1 S 0 c) (hI1 : zI S) (hf : zHf S hand) (ht : t < z_N S 0) (hk : z_F S 2 t = 5 ∨ z_F S 2 t = 6) (hw : hand = none → act = 2) (hh : zHd3 m τ1 hand act n) (k : ∀ τ2 c2, c ≤ c2 → c2 ≤ c + 1 → zRM m τ2 (z_joiner1 S hand t act) 0 c2 → Q τ2) : ((xh_I τ1 496 m) = 6 → wp_X7_holds τ1 m (nI t) (fun σ17 => vp_in (nI t) 40 ∧ (vp_in (nI t) 40 ∧ (((xh_a σ17 (m + 8) (nI t).toNatClampNeg) < (xh_a σ17 (m + 3) (nI t).toNatClampNeg) → wb_X7_joiner_149 Q σ17 m) ∧ (¬ (xh_a σ17 (m + 8) (nI t).toNatClampNeg) < (xh_a σ17 (m + 3) (nI t).toNatClampNeg) → ∃ m45, wb_X7_joiner_45 Q m m45 σ17 (nI t) 0 0))))) ∧ (¬ (xh_I τ1 496 m) = 6 → ((xh_I τ1 496 m) = 0 → vp_in (nI t) 40 ∧ (wp_X7_answers τ1 m (nI t) 1 (xh_a τ1 (m + 8) (nI t).toNatClampNeg) (fun σ16 => wb_X7_joiner_149 Q σ16 m))) ∧ (¬ (xh_I τ1 496 m) = 0 → ((xh_I τ1 496 m) = 7 → wp_X7_answers τ1 m (nI t) 2 (nI t) (fun σ14 => wb_X7_joiner_149 Q σ14 m)) ∧ (¬ (xh_I τ1 496 m) = 7 → wp_X7_breaks τ1 m (nI t) 3 (fun σ13 => wb_X7_joiner_149 Q σ13 m)))) := by
  have b := hI1.1.1
  have hv : vp_in (nI t) 40 := vpI (by omega)
  obtain ⟨g1, g2, g3⟩ := hh
  unfold z_joiner1 at k
  rw [g2]
  refine ⟨fun e6 => ?_, fun n6 => ⟨fun e0 => ⟨hv, ?_⟩, fun n0 => ⟨fun e7 => ?_, fun n7 => ?_⟩⟩⟩
  · cases hand with
    | none => exact absurd (hw rfl) (by rw [e6]; decide)
    | some p =>
      rw [if_pos e6] at k
      have kk : ∀ τ2 c2, c ≤ c2 → c2 ≤ c + 1 → zRM m τ2 (if z_F (z_hold S p t) 8 t < z_F S 3 t then z_hold S p t else z_free (z_hold S p t) t (z_sumN (z_hold S p t) (z_H (z_hold S p t) t))) 0 c2 → Q τ2 := k
      have hI2 : zI (z_hold S p t) := I_hold hI1 hf ht hk
      refine m_holds hR1 hI1 hf ht g1 (fun τ2 hR2 => ⟨hv, hv, ?_⟩)
      rw [cl40 (by omega), rdF hR2 (k := 8), rdF hR2 (k := 3), show z_F (z_hold S p t) 3 t = z_F S 3 t from by rw [zF_hold, if_neg (by omega), if_neg (by omega)]]
      refine ⟨fun z => ?_, fun z => ?_⟩
      · rw [if_pos z] at kk
        exact kk τ2 (c + 1) (by omega) (by omega) hR2
      · rw [if_neg z] at kk
        refine m_sumloop hR2 hI2 ht ?_
        exact m_answersAll (by omega) hR2 hI2 ht (fun τ3 hR3 => kk τ3 (c + 1) (by omega) (by omega) hR3)
  · rw [if_neg n6, if_pos e0] at k
    rw [cl40 (by omega), rdF hR1 (k := 8)]
    exact m_answer hR1 hI1 hf ht g1 (fun τ2 => k τ2 c (by omega) (by omega))
  · rw [if_neg n6, if_neg n0, if_pos e7] at k
    exact m_answer hR1 hI1 hf ht g1 (fun τ2 => k τ2 c (by omega) (by omega))
  · rw [if_neg n6, if_neg n0, if_neg n7] at k
    exact m_answer hR1 hI1 hf ht g1 (fun τ2 => k τ2 c (by omega) (by omega))
theorem m_joiner {m : Nat} {τ : xS} {S : zS} {c : Nat} {hand : Option Nat} {t : Nat} {act n : Int32} {Q : xS → Prop} (hc : c + 1 < 2 ^ 31) (hR : zRM m τ S 0 c) (hI : zI S) (hf : zHf S hand) (ht : t < z_N S 0) (hk : z_F S 2 t = 5 ∨ z_F S 2 t = 6) (hw : hand = none → act = 2) (hh : zHd3 m τ hand act n) (k : ∀ τ2 c2, c ≤ c2 → c2 ≤ c + 1 → zRM m τ2 (z_joiner S hand t act) 0 c2 → Q τ2) : wp_X7_joiner τ m (nI t) Q := by
  unfold wp_X7_joiner
  intro τ1 e1
  unfold z_joiner at k
  exact m_joiner1 hc (m_r2 hR e1) (I_r hI) (r_Hf hf) (r_lt ht) (r_k2 hk) hw (zHd3_L hh e1) k
theorem m_sleeper1 {m : Nat} {τ1 : xS} {S : zS} {c : Nat} {hand : Option Nat} {t : Nat} {act n : Int32} {Q : xS → Prop} (hc : c + 1 < 2 ^ 31) (hR1 : zRM m τ1 S 0 c) (hI1 : zI S) (hf : zHf S hand) (ht : t < z_N S 0) (hk : z_F S 2 t = 5 ∨ z_F S 2 t = 6) (hw : hand = none → act = 2) (hh1 : zHd3 m τ1 hand act n) (k : ∀ τ2 c2, c ≤ c2 → c2 ≤ c + 1 → zRM m τ2 (z_sleeper1 S hand t act) 0 c2 → Q τ2) : ((xh_I τ1 496 m) = 6 → wp_X7_holds τ1 m (nI t) (fun σ4 => wb_X7_sleeper_34 Q σ4 m)) ∧ (¬ (xh_I τ1 496 m) = 6 → wp_X7_joiner τ1 m (nI t) (fun σ3 => wb_X7_sleeper_34 Q σ3 m)) := by
  unfold z_sleeper1 at k
  rw [hh1.2.1]
  refine ⟨fun e6 => ?_, fun n6 => ?_⟩
  · cases hand with
    | none => exact absurd (hw rfl) (by rw [e6]; decide)
    | some p =>
      rw [if_pos e6] at k
      exact m_holds hR1 hI1 hf ht hh1.1 (fun τ2 => k τ2 (c + 1) (by omega) (by omega))
  · rw [if_neg n6] at k
    exact m_joiner hc hR1 hI1 hf ht hk hw hh1 k
theorem m_sleeper {m : Nat} {τ : xS} {S : zS} {c : Nat} {hand : Option Nat} {t : Nat} {act n : Int32} {Q : xS → Prop} (hc : c + 1 < 2 ^ 31) (hR : zRM m τ S 0 c) (hI : zI S) (hf : zHf S hand) (ht : t < z_N S 0) (hk : z_F S 2 t = 5 ∨ z_F S 2 t = 6) (hw : hand = none → act = 2) (hh : zHd3 m τ hand act n) (k : ∀ τ2 c2, c ≤ c2 → c2 ≤ c + 1 → zRM m τ2 (z_sleeper S hand t act) 0 c2 → Q τ2) : wp_X7_sleeper τ m (nI t) Q := by
  unfold wp_X7_sleeper
  intro τ1 e1
  unfold z_sleeper at k
  exact m_sleeper1 hc (m_r2 hR e1) (I_r hI) (r_Hf hf) (r_lt ht) (r_k2 hk) hw (zHd3_L hh e1) k
theorem m_hears {m : Nat} {τ : xS} {S : zS} {c : Nat} {hand : Option Nat} {t : Nat} {act n : Int32} {Q : xS → Prop} (hc : c + 1 < 2 ^ 31) (hR : zRM m τ S 0 c) (hI : zI S) (hn : zHn S hand t act n) (hh : zHd3 m τ hand act n) (k : ∀ τ2 c2, c ≤ c2 → c2 ≤ c + 1 → zRM m τ2 (z_hear S hand t act n) 0 c2 → Q τ2) : wp_X7_hears τ m (nI t) Q := by
  obtain ⟨hf, ht, ha, hw⟩ := hn
  have b := hI.1.1
  have hv : vp_in (nI t) 40 := vpI (by omega)
  unfold wp_X7_hears
  intro τ1 e1
  have hu : xh_I τ 493 m = z_u S := hR.1.2.2.2.2.2.1
  have hR1 : zRM m τ1 (zs_u S (z_u S + 1)) 0 c := by rw [e1, hu]; exact m_u hR
  have hh1 : zHd3 m τ1 hand act n := by
    obtain ⟨-, -, -, I⟩ := st_I e1
    refine ⟨?_, ?_, ?_⟩
    · rw [I, if_neg (by omega)]; exact hh.1
    · rw [I, if_neg (by omega)]; exact hh.2.1
    · rw [I, if_neg (by omega)]; exact hh.2.2
  unfold z_hear at k
  generalize z_u S + 1 = uu at hR1 k
  have hI1 : zI (zs_u S uu) := I_u hI
  unfold z_hear1 at k
  rw [cl40 (by omega), rdF hR1 (k := 2)]
  refine ⟨hv, fun e0 => ?_, fun n0 => ⟨fun e1 => ?_, fun n1 => ⟨fun e2 => ?_, fun n2 => ⟨fun e3 => ?_, fun n3 => ⟨fun e4 => ?_, fun n4 => ⟨fun e5 => ?_, fun n5 => ?_⟩⟩⟩⟩⟩⟩
  · rw [if_pos e0] at k
    exact m_cell hR1 hI1 hf ht hh1 (fun τ2 => k τ2 c (by omega) (by omega))
  · rw [if_neg n0, if_pos e1] at k
    exact m_purse hR1 hI1 hf ht (fun p e => (ha p e).1) (fun e => (hw e).2) hh1 (fun τ2 => k τ2 c (by omega) (by omega))
  · rw [if_neg n0, if_neg n1, if_pos e2] at k
    exact m_maker hR1 hI1 hf ht hh1 (fun τ2 => k τ2 c (by omega) (by omega))
  · rw [if_neg n0, if_neg n1, if_neg n2, if_pos e3] at k
    exact m_guard hR1 hI1 hf ht (Or.inl e3) hh1 (fun τ2 => k τ2 c (by omega) (by omega))
  · rw [if_neg n0, if_neg n1, if_neg n2, if_neg n3, if_pos e4] at k
    exact m_switch hR1 hI1 hf ht (Or.inr e4) hh1 (fun τ2 => k τ2 c (by omega) (by omega))
  · rw [if_neg n0, if_neg n1, if_neg n2, if_neg n3, if_neg n4, if_pos e5] at k
    exact m_joiner hc hR1 hI1 hf ht (Or.inl e5) (fun e => (hw e).2) hh1 k
  · rw [if_neg n0, if_neg n1, if_neg n2, if_neg n3, if_neg n4, if_neg n5] at k
    exact m_sleeper hc hR1 hI1 hf ht (Or.inr (kind_6 hI1 ht n0 n1 n2 n3 n4 n5)) (fun e => (hw e).2) hh1 k
