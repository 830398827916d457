-- PromiseWireModel.sleeper(I)V
def wb_X7_sleeper_34 (Q : xS → Prop) (σ : xS) (a0 : Nat) : Prop := Q σ
set_option maxRecDepth 100000 in
set_option maxHeartbeats 4000000 in
theorem xb_X7_sleeper_34 {Q : xS → Prop} {σ : xS} {a0 : Nat}  (hW : xw7 σ a0)  (hw : wb_X7_sleeper_34 Q σ a0) : xX M_X7_sleeper 34 [(0, .ref a0)] [] σ (xqV (fun σ2 => xw7 σ2 a0 ∧ Q σ2)) := by
  unfold wb_X7_sleeper_34 at hw
  exact x_vret dX7_sleeper_34 rfl ⟨rfl, hW, hw⟩
def wp_X7_sleeper (σ : xS) (a0 : Nat) (l1 : Int32) (Q : xS → Prop) : Prop := ∀ σ1, σ1 = xs_L σ 494 a0 ((xh_L σ 494 a0) + 1000000) → (((xh_I σ1 496 a0) = 6 → wp_X7_holds σ1 a0 l1 (fun σ4 => wb_X7_sleeper_34 Q σ4 a0)) ∧ (¬ (xh_I σ1 496 a0) = 6 → wp_X7_joiner σ1 a0 l1 (fun σ3 => wb_X7_sleeper_34 Q σ3 a0)))
set_option maxRecDepth 100000 in
set_option maxHeartbeats 4000000 in
theorem ct_X7_sleeper {σ : xS} {a0 : Nat}  {l1 : Int32} {Q : xS → Prop} (hW : xw7 σ a0) (hw : wp_X7_sleeper σ a0 l1 Q) : xCt M_X7_sleeper [.ref a0, .int l1] σ (xqV (fun σ2 => xw7 σ2 a0 ∧ Q σ2)) := by
  refine xCt_ofL (lv := [(0, .ref a0), (1, .int l1)]) pn_X7 (Nat.le_of_ble_eq_true rfl) rfl ?_
  unfold wp_X7_sleeper at hw
  refine x_aload_n dX7_sleeper_0 rfl 0 rfl ?_
  refine x_dup dX7_sleeper_1 rfl ?_
  refine x_get (ci := 7) (k := 46) (v := .long (xh_L σ 494 a0)) dX7_sleeper_2 wF_X7_215 (Nat.le_of_ble_eq_true rfl) (Nat.le_of_ble_eq_true rfl) hW.1 rfl ?_
  refine x_ldc2 dX7_sleeper_5 wL_X7_257 ?_
  refine x_ladd dX7_sleeper_8 ?_
  refine x_putLN (ci := 7) (k := 46) (f := 494) dX7_sleeper_9 wF_X7_215 (Nat.le_of_ble_eq_true rfl) (Nat.le_of_ble_eq_true rfl) hW.1 (Or.inl rfl) rfl rfl (fun σ1 hσ1 => ?_)
  replace hw := hw σ1 hσ1
  refine x_aload_n dX7_sleeper_12 rfl 0 rfl ?_
  have hW := (xw7_L hσ1 hW)
  refine x_get (ci := 7) (k := 48) (v := .int (xh_I σ1 496 a0)) dX7_sleeper_13 wF_X7_219 (Nat.le_of_ble_eq_true rfl) (Nat.le_of_ble_eq_true rfl) hW.1 rfl ?_
  refine x_bipush dX7_sleeper_16 cB_6 ?_
  refine x_icmp_ne 29 dX7_sleeper_18 rfl (fun hc2 => ?_) (fun hc2 => ?_)
  · replace hw := hw.2 hc2
    refine x_aload_n dX7_sleeper_29 rfl 0 rfl ?_
    refine x_iload_n dX7_sleeper_30 rfl 1 rfl ?_
    refine x_callV (M2 := M_X7_joiner) (As := [.int l1]) (st := []) (ci := 7) (Nat.le_of_ble_eq_true rfl) hW.1 rfl wM_X7_259 wI_X7_joiner wS_X7_joiner dX7_sleeper_31 rfl ok_X7_joiner ⟨(Nat.le_of_ble_eq_true rfl), (Nat.le_of_ble_eq_true rfl)⟩ (Nat.le_of_ble_eq_true rfl) (ct_X7_joiner hW hw) (xqV.k (fun σ3 hw2 => ?_))
    obtain ⟨hW, hw⟩ := hw2
    exact x_sub [0] rfl (xb_X7_sleeper_34 hW hw)
  · replace hw := hw.1 hc2
    refine x_aload_n dX7_sleeper_21 rfl 0 rfl ?_
    refine x_iload_n dX7_sleeper_22 rfl 1 rfl ?_
    refine x_callV (M2 := M_X7_holds) (As := [.int l1]) (st := []) (ci := 7) (Nat.le_of_ble_eq_true rfl) hW.1 rfl wM_X7_251 wI_X7_holds wS_X7_holds dX7_sleeper_23 rfl ok_X7_holds ⟨(Nat.le_of_ble_eq_true rfl), (Nat.le_of_ble_eq_true rfl)⟩ (Nat.le_of_ble_eq_true rfl) (ct_X7_holds hW hw) (xqV.k (fun σ4 hw2 => ?_))
    obtain ⟨hW, hw⟩ := hw2
    refine x_goto 34 dX7_sleeper_26 rfl ?_
    exact x_sub [0] rfl (xb_X7_sleeper_34 hW hw)
-- PromiseWireModel.hears(I)V
def wb_X7_hears_109 (Q : xS → Prop) (σ : xS) (a0 : Nat) : Prop := Q σ
set_option maxRecDepth 100000 in
set_option maxHeartbeats 4000000 in
theorem xb_X7_hears_109 {Q : xS → Prop} {σ : xS} {a0 : Nat}  (hW : xw7 σ a0)  (hw : wb_X7_hears_109 Q σ a0) : xX M_X7_hears 109 [(0, .ref a0)] [] σ (xqV (fun σ2 => xw7 σ2 a0 ∧ Q σ2)) := by
  unfold wb_X7_hears_109 at hw
  exact x_vret dX7_hears_109 rfl ⟨rfl, hW, hw⟩
def wp_X7_hears (σ : xS) (a0 : Nat) (l1 : Int32) (Q : xS → Prop) : Prop := ∀ σ1, σ1 = xs_I σ 493 a0 ((xh_I σ 493 a0) + 1) → (vp_in l1 40 ∧ (((xh_a σ1 (a0 + 2) l1.toNatClampNeg) = 0 → wp_X7_cell σ1 a0 l1 (fun σ4 => wb_X7_hears_109 Q σ4 a0)) ∧ (¬ (xh_a σ1 (a0 + 2) l1.toNatClampNeg) = 0 → ((xh_a σ1 (a0 + 2) l1.toNatClampNeg) = 1 → wp_X7_purse σ1 a0 l1 (fun σ6 => wb_X7_hears_109 Q σ6 a0)) ∧ (¬ (xh_a σ1 (a0 + 2) l1.toNatClampNeg) = 1 → ((xh_a σ1 (a0 + 2) l1.toNatClampNeg) = 2 → wp_X7_maker σ1 a0 l1 (fun σ8 => wb_X7_hears_109 Q σ8 a0)) ∧ (¬ (xh_a σ1 (a0 + 2) l1.toNatClampNeg) = 2 → ((xh_a σ1 (a0 + 2) l1.toNatClampNeg) = 3 → wp_X7_guardHears σ1 a0 l1 (fun σ10 => wb_X7_hears_109 Q σ10 a0)) ∧ (¬ (xh_a σ1 (a0 + 2) l1.toNatClampNeg) = 3 → ((xh_a σ1 (a0 + 2) l1.toNatClampNeg) = 4 → wp_X7_switchHears σ1 a0 l1 (fun σ12 => wb_X7_hears_109 Q σ12 a0)) ∧ (¬ (xh_a σ1 (a0 + 2) l1.toNatClampNeg) = 4 → ((xh_a σ1 (a0 + 2) l1.toNatClampNeg) = 5 → wp_X7_joiner σ1 a0 l1 (fun σ14 => wb_X7_hears_109 Q σ14 a0)) ∧ (¬ (xh_a σ1 (a0 + 2) l1.toNatClampNeg) = 5 → wp_X7_sleeper σ1 a0 l1 (fun σ15 => wb_X7_hears_109 Q σ15 a0)))))))))
set_option maxRecDepth 100000 in
set_option maxHeartbeats 4000000 in
theorem ct_X7_hears {σ : xS} {a0 : Nat}  {l1 : Int32} {Q : xS → Prop} (hW : xw7 σ a0) (hw : wp_X7_hears σ a0 l1 Q) : xCt M_X7_hears [.ref a0, .int l1] σ (xqV (fun σ2 => xw7 σ2 a0 ∧ Q σ2)) := by
  refine xCt_ofL (lv := [(0, .ref a0), (1, .int l1)]) pn_X7 (Nat.le_of_ble_eq_true rfl) rfl ?_
  unfold wp_X7_hears at hw
  refine x_aload_n dX7_hears_0 rfl 0 rfl ?_
  refine x_dup dX7_hears_1 rfl ?_
  refine x_get (ci := 7) (k := 45) (v := .int (xh_I σ 493 a0)) dX7_hears_2 wF_X7_262 (Nat.le_of_ble_eq_true rfl) (Nat.le_of_ble_eq_true rfl) hW.1 rfl ?_
  refine x_iconst dX7_hears_5 cI_1 ?_
  refine x_iadd dX7_hears_6 ?_
  refine x_putIN (ci := 7) (k := 45) (f := 493) dX7_hears_7 wF_X7_262 (Nat.le_of_ble_eq_true rfl) (Nat.le_of_ble_eq_true rfl) hW.1 (Or.inl rfl) rfl (Or.inl rfl) (fun σ1 hσ1 => ?_)
  replace hw := hw σ1 hσ1
  refine x_aload_n dX7_hears_10 rfl 0 rfl ?_
  have hW := (xw7_I hσ1 hW)
  refine x_get (ci := 7) (k := 2) (v := .ref (a0 + 2)) dX7_hears_11 wF_X7_13 (Nat.le_of_ble_eq_true rfl) (Nat.le_of_ble_eq_true rfl) hW.1 (congrArg va_rf (w7r_2 hW)) ?_
  refine x_iload_n dX7_hears_14 rfl 1 rfl ?_
  obtain ⟨hv2, hw⟩ := hw
  refine x_ialdZ dX7_hears_15 (w7k_2 hW) (w7z_2 hW) hv2 ?_
  by_cases hc3 : (xh_a σ1 (a0 + 2) l1.toNatClampNeg) = 0
  · replace hw := hw.1 hc3
    refine x_tableIn (off := 40) 56 dX7_hears_16 (by rw [hc3]; decide) (by rw [hc3]; decide) (by rw [hc3]; rfl) rfl ?_
    refine x_aload_n dX7_hears_56 rfl 0 rfl ?_
    refine x_iload_n dX7_hears_57 rfl 1 rfl ?_
    refine x_callV (M2 := M_X7_cell) (As := [.int l1]) (st := []) (ci := 7) (Nat.le_of_ble_eq_true rfl) hW.1 rfl wM_X7_234 wI_X7_cell wS_X7_cell dX7_hears_58 rfl ok_X7_cell ⟨(Nat.le_of_ble_eq_true rfl), (Nat.le_of_ble_eq_true rfl)⟩ (Nat.le_of_ble_eq_true rfl) (ct_X7_cell hW hw) (xqV.k (fun σ4 hw2 => ?_))
    obtain ⟨hW, hw⟩ := hw2
    refine x_goto 109 dX7_hears_61 rfl ?_
    exact x_sub [0] rfl (xb_X7_hears_109 hW hw)
  · replace hw := hw.2 hc3
    by_cases hc5 : (xh_a σ1 (a0 + 2) l1.toNatClampNeg) = 1
    · replace hw := hw.1 hc5
      refine x_tableIn (off := 48) 64 dX7_hears_16 (by rw [hc5]; decide) (by rw [hc5]; decide) (by rw [hc5]; rfl) rfl ?_
      refine x_aload_n dX7_hears_64 rfl 0 rfl ?_
      refine x_iload_n dX7_hears_65 rfl 1 rfl ?_
      refine x_callV (M2 := M_X7_purse) (As := [.int l1]) (st := []) (ci := 7) (Nat.le_of_ble_eq_true rfl) hW.1 rfl wM_X7_265 wI_X7_purse wS_X7_purse dX7_hears_66 rfl ok_X7_purse ⟨(Nat.le_of_ble_eq_true rfl), (Nat.le_of_ble_eq_true rfl)⟩ (Nat.le_of_ble_eq_true rfl) (ct_X7_purse hW hw) (xqV.k (fun σ6 hw2 => ?_))
      obtain ⟨hW, hw⟩ := hw2
      refine x_goto 109 dX7_hears_69 rfl ?_
      exact x_sub [0] rfl (xb_X7_hears_109 hW hw)
    · replace hw := hw.2 hc5
      by_cases hc7 : (xh_a σ1 (a0 + 2) l1.toNatClampNeg) = 2
      · replace hw := hw.1 hc7
        refine x_tableIn (off := 56) 72 dX7_hears_16 (by rw [hc7]; decide) (by rw [hc7]; decide) (by rw [hc7]; rfl) rfl ?_
        refine x_aload_n dX7_hears_72 rfl 0 rfl ?_
        refine x_iload_n dX7_hears_73 rfl 1 rfl ?_
        refine x_callV (M2 := M_X7_maker) (As := [.int l1]) (st := []) (ci := 7) (Nat.le_of_ble_eq_true rfl) hW.1 rfl wM_X7_268 wI_X7_maker wS_X7_maker dX7_hears_74 rfl ok_X7_maker ⟨(Nat.le_of_ble_eq_true rfl), (Nat.le_of_ble_eq_true rfl)⟩ (Nat.le_of_ble_eq_true rfl) (ct_X7_maker hW hw) (xqV.k (fun σ8 hw2 => ?_))
        obtain ⟨hW, hw⟩ := hw2
        refine x_goto 109 dX7_hears_77 rfl ?_
        exact x_sub [0] rfl (xb_X7_hears_109 hW hw)
      · replace hw := hw.2 hc7
        by_cases hc9 : (xh_a σ1 (a0 + 2) l1.toNatClampNeg) = 3
        · replace hw := hw.1 hc9
          refine x_tableIn (off := 64) 80 dX7_hears_16 (by rw [hc9]; decide) (by rw [hc9]; decide) (by rw [hc9]; rfl) rfl ?_
          refine x_aload_n dX7_hears_80 rfl 0 rfl ?_
          refine x_iload_n dX7_hears_81 rfl 1 rfl ?_
          refine x_callV (M2 := M_X7_guardHears) (As := [.int l1]) (st := []) (ci := 7) (Nat.le_of_ble_eq_true rfl) hW.1 rfl wM_X7_243 wI_X7_guardHears wS_X7_guardHears dX7_hears_82 rfl ok_X7_guardHears ⟨(Nat.le_of_ble_eq_true rfl), (Nat.le_of_ble_eq_true rfl)⟩ (Nat.le_of_ble_eq_true rfl) (ct_X7_guardHears hW hw) (xqV.k (fun σ10 hw2 => ?_))
          obtain ⟨hW, hw⟩ := hw2
          refine x_goto 109 dX7_hears_85 rfl ?_
          exact x_sub [0] rfl (xb_X7_hears_109 hW hw)
        · replace hw := hw.2 hc9
          by_cases hc11 : (xh_a σ1 (a0 + 2) l1.toNatClampNeg) = 4
          · replace hw := hw.1 hc11
            refine x_tableIn (off := 72) 88 dX7_hears_16 (by rw [hc11]; decide) (by rw [hc11]; decide) (by rw [hc11]; rfl) rfl ?_
            refine x_aload_n dX7_hears_88 rfl 0 rfl ?_
            refine x_iload_n dX7_hears_89 rfl 1 rfl ?_
            refine x_callV (M2 := M_X7_switchHears) (As := [.int l1]) (st := []) (ci := 7) (Nat.le_of_ble_eq_true rfl) hW.1 rfl wM_X7_271 wI_X7_switchHears wS_X7_switchHears dX7_hears_90 rfl ok_X7_switchHears ⟨(Nat.le_of_ble_eq_true rfl), (Nat.le_of_ble_eq_true rfl)⟩ (Nat.le_of_ble_eq_true rfl) (ct_X7_switchHears hW hw) (xqV.k (fun σ12 hw2 => ?_))
            obtain ⟨hW, hw⟩ := hw2
            refine x_goto 109 dX7_hears_93 rfl ?_
            exact x_sub [0] rfl (xb_X7_hears_109 hW hw)
          · replace hw := hw.2 hc11
            by_cases hc13 : (xh_a σ1 (a0 + 2) l1.toNatClampNeg) = 5
            · replace hw := hw.1 hc13
              refine x_tableIn (off := 80) 96 dX7_hears_16 (by rw [hc13]; decide) (by rw [hc13]; decide) (by rw [hc13]; rfl) rfl ?_
              refine x_aload_n dX7_hears_96 rfl 0 rfl ?_
              refine x_iload_n dX7_hears_97 rfl 1 rfl ?_
              refine x_callV (M2 := M_X7_joiner) (As := [.int l1]) (st := []) (ci := 7) (Nat.le_of_ble_eq_true rfl) hW.1 rfl wM_X7_259 wI_X7_joiner wS_X7_joiner dX7_hears_98 rfl ok_X7_joiner ⟨(Nat.le_of_ble_eq_true rfl), (Nat.le_of_ble_eq_true rfl)⟩ (Nat.le_of_ble_eq_true rfl) (ct_X7_joiner hW hw) (xqV.k (fun σ14 hw2 => ?_))
              obtain ⟨hW, hw⟩ := hw2
              refine x_goto 109 dX7_hears_101 rfl ?_
              exact x_sub [0] rfl (xb_X7_hears_109 hW hw)
            · replace hw := hw.2 hc13
              refine x_tableOut 104 dX7_hears_16 (xsw_0_5 hc3 hc5 hc7 hc9 hc11 hc13) rfl ?_
              refine x_aload_n dX7_hears_104 rfl 0 rfl ?_
              refine x_iload_n dX7_hears_105 rfl 1 rfl ?_
              refine x_callV (M2 := M_X7_sleeper) (As := [.int l1]) (st := []) (ci := 7) (Nat.le_of_ble_eq_true rfl) hW.1 rfl wM_X7_274 wI_X7_sleeper wS_X7_sleeper dX7_hears_106 rfl ok_X7_sleeper ⟨(Nat.le_of_ble_eq_true rfl), (Nat.le_of_ble_eq_true rfl)⟩ (Nat.le_of_ble_eq_true rfl) (ct_X7_sleeper hW hw) (xqV.k (fun σ15 hw2 => ?_))
              obtain ⟨hW, hw⟩ := hw2
              exact x_sub [0] rfl (xb_X7_hears_109 hW hw)
-- PromiseWireModel.wake(II)I
def wb_X7_wake_19 (Q : Int32 → xS → Prop) (σ : xS) (a0 : Nat) : Prop := Q (-1) σ
set_option maxRecDepth 100000 in
set_option maxHeartbeats 4000000 in
theorem xb_X7_wake_19 {Q : Int32 → xS → Prop} {σ : xS} {a0 : Nat}  (hW : xw7 σ a0)  (hw : wb_X7_wake_19 Q σ a0) : xX M_X7_wake 19 [(0, .ref a0)] [] σ (xqI (fun r σ2 => xw7 σ2 a0 ∧ Q r σ2)) := by
  unfold wb_X7_wake_19 at hw
  refine x_iconst dX7_wake_19 cI_m1 ?_
  exact x_iret dX7_wake_20 rfl ⟨(-1), rfl, hW, hw⟩
def wp_X7_wake (σ : xS) (a0 : Nat) (l1 : Int32) (l2 : Int32) (Q : Int32 → xS → Prop) : Prop := wp_X7_isThing σ a0 l1 (fun x1 => (x1 = 0 → wb_X7_wake_19 Q σ a0) ∧ (¬ x1 = 0 → vp_in l1 40 ∧ (((xh_a σ (a0 + 2) l1.toNatClampNeg) = 6 → wp_X7_answersAll σ a0 l1 l2 (fun x6 σ7 => wp_X7_doesAll σ7 a0 (fun σ8 => Q x6 σ8))) ∧ (¬ (xh_a σ (a0 + 2) l1.toNatClampNeg) = 6 → wb_X7_wake_19 Q σ a0))))
set_option maxRecDepth 100000 in
set_option maxHeartbeats 4000000 in
theorem ct_X7_wake {σ : xS} {a0 : Nat}  {l1 : Int32} {l2 : Int32} {Q : Int32 → xS → Prop} (hW : xw7 σ a0) (hw : wp_X7_wake σ a0 l1 l2 Q) : xCt M_X7_wake [.ref a0, .int l1, .int l2] σ (xqI (fun r σ2 => xw7 σ2 a0 ∧ Q r σ2)) := by
  refine xCt_ofL (lv := [(0, .ref a0), (1, .int l1), (2, .int l2)]) pn_X7 (Nat.le_of_ble_eq_true rfl) rfl ?_
  unfold wp_X7_wake at hw
  refine x_aload_n dX7_wake_0 rfl 0 rfl ?_
  refine x_iload_n dX7_wake_1 rfl 1 rfl ?_
  refine x_callV (M2 := M_X7_isThing) (As := [.int l1]) (st := []) (ci := 7) (Nat.le_of_ble_eq_true rfl) hW.1 rfl wM_X7_143 wI_X7_isThing wS_X7_isThing dX7_wake_2 rfl ok_X7_isThing ⟨(Nat.le_of_ble_eq_true rfl), (Nat.le_of_ble_eq_true rfl)⟩ (Nat.le_of_ble_eq_true rfl) (ct_X7_isThing hW hw) (xqI.k (fun x1 τ2 hw2 => ?_))
  obtain ⟨he, hw⟩ := hw2
  subst he
  refine x_if_eq 19 dX7_wake_5 rfl (fun hc3 => ?_) (fun hc3 => ?_)
  · replace hw := hw.1 hc3
    exact x_sub [0] rfl (xb_X7_wake_19 hW hw)
  · replace hw := hw.2 hc3
    refine x_aload_n dX7_wake_8 rfl 0 rfl ?_
    refine x_get (ci := 7) (k := 2) (v := .ref (a0 + 2)) dX7_wake_9 wF_X7_13 (Nat.le_of_ble_eq_true rfl) (Nat.le_of_ble_eq_true rfl) hW.1 (congrArg va_rf (w7r_2 hW)) ?_
    refine x_iload_n dX7_wake_12 rfl 1 rfl ?_
    obtain ⟨hv4, hw⟩ := hw
    refine x_ialdZ dX7_wake_13 (w7k_2 hW) (w7z_2 hW) hv4 ?_
    refine x_bipush dX7_wake_14 cB_6 ?_
    refine x_icmp_eq 21 dX7_wake_16 rfl (fun hc5 => ?_) (fun hc5 => ?_)
    · replace hw := hw.1 hc5
      refine x_aload_n dX7_wake_21 rfl 0 rfl ?_
      refine x_iload_n dX7_wake_22 rfl 1 rfl ?_
      refine x_iload_n dX7_wake_23 rfl 2 rfl ?_
      refine x_callV (M2 := M_X7_answersAll) (As := [.int l1, .int l2]) (st := []) (ci := 7) (Nat.le_of_ble_eq_true rfl) hW.1 rfl wM_X7_254 wI_X7_answersAll wS_X7_answersAll dX7_wake_24 rfl ok_X7_answersAll ⟨(Nat.le_of_ble_eq_true rfl), (Nat.le_of_ble_eq_true rfl)⟩ (Nat.le_of_ble_eq_true rfl) (ct_X7_answersAll hW hw) (xqI.k (fun x6 σ7 hw2 => ?_))
      obtain ⟨hW, hw⟩ := hw2
      refine x_istore_n [(3, .int x6), (0, .ref a0), (1, .int l1), (2, .int l2)] dX7_wake_27 rfl (Nat.le_of_ble_eq_true rfl) rfl ?_
      refine x_aload_n dX7_wake_28 rfl 1 rfl ?_
      refine x_callV (M2 := M_X7_doesAll) (As := []) (st := []) (ci := 7) (Nat.le_of_ble_eq_true rfl) hW.1 rfl wM_X7_277 wI_X7_doesAll wS_X7_doesAll dX7_wake_29 rfl ok_X7_doesAll ⟨(Nat.le_of_ble_eq_true rfl), (Nat.le_of_ble_eq_true rfl)⟩ (Nat.le_of_ble_eq_true rfl) (ct_X7_doesAll hW hw) (xqV.k (fun σ8 hw2 => ?_))
      obtain ⟨hW, hw⟩ := hw2
      refine x_iload_n dX7_wake_32 rfl 0 rfl ?_
      exact x_iret dX7_wake_33 rfl ⟨x6, rfl, hW, hw⟩
    · replace hw := hw.2 hc5
      exact x_sub [0] rfl (xb_X7_wake_19 hW hw)
-- PromiseWireModel.isOf(II)Z
def wb_X7_isOf_25 (Q : Int32 → Prop) (σ : xS) (a0 : Nat) (s0 : Int32) : Prop := (s0 = 0 ∨ s0 = 1) ∧ Q s0
set_option maxRecDepth 100000 in
set_option maxHeartbeats 4000000 in
theorem xb_X7_isOf_25 {Q : Int32 → Prop} {σ : xS} {a0 : Nat}  {s0 : Int32} (hW : xw7 σ a0)  (hw : wb_X7_isOf_25 Q σ a0 s0) : xX M_X7_isOf 25 [(0, .ref a0)] [.int s0] σ (xqI (fun r σ2 => σ = σ2 ∧ Q r )) := by
  unfold wb_X7_isOf_25 at hw
  obtain ⟨hz1, hw⟩ := hw
  exact x_zret dX7_isOf_25 rfl hz1 ⟨s0, rfl, rfl, hw⟩
def wb_X7_isOf_20 (Q : Int32 → Prop) (σ : xS) (a0 : Nat) : Prop := wb_X7_isOf_25 Q σ a0 1
set_option maxRecDepth 100000 in
set_option maxHeartbeats 4000000 in
theorem xb_X7_isOf_20 {Q : Int32 → Prop} {σ : xS} {a0 : Nat}  (hW : xw7 σ a0)  (hw : wb_X7_isOf_20 Q σ a0) : xX M_X7_isOf 20 [(0, .ref a0)] [] σ (xqI (fun r σ2 => σ = σ2 ∧ Q r )) := by
  unfold wb_X7_isOf_20 at hw
  refine x_iconst dX7_isOf_20 cI_1 ?_
  refine x_goto 25 dX7_isOf_21 rfl ?_
  exact x_sub [0] rfl (xb_X7_isOf_25 hW hw)
def wp_X7_isOf (σ : xS) (a0 : Nat) (l1 : Int32) (l2 : Int32) (Q : Int32 → Prop) : Prop := vp_in l1 100 ∧ (((xh_a σ (a0 + 9) l1.toNatClampNeg) = l2 → wb_X7_isOf_20 Q σ a0) ∧ (¬ (xh_a σ (a0 + 9) l1.toNatClampNeg) = l2 → vp_in l1 100 ∧ (((xh_a σ (a0 + 10) l1.toNatClampNeg) = l2 → wb_X7_isOf_20 Q σ a0) ∧ (¬ (xh_a σ (a0 + 10) l1.toNatClampNeg) = l2 → wb_X7_isOf_25 Q σ a0 0))))
set_option maxRecDepth 100000 in
set_option maxHeartbeats 4000000 in
theorem ct_X7_isOf {σ : xS} {a0 : Nat}  {l1 : Int32} {l2 : Int32} {Q : Int32 → Prop} (hW : xw7 σ a0) (hw : wp_X7_isOf σ a0 l1 l2 Q) : xCt M_X7_isOf [.ref a0, .int l1, .int l2] σ (xqI (fun r σ2 => σ = σ2 ∧ Q r )) := by
  refine xCt_ofL (lv := [(0, .ref a0), (1, .int l1), (2, .int l2)]) pn_X7 (Nat.le_of_ble_eq_true rfl) rfl ?_
  unfold wp_X7_isOf at hw
  refine x_aload_n dX7_isOf_0 rfl 0 rfl ?_
  refine x_get (ci := 7) (k := 10) (v := .ref (a0 + 9)) dX7_isOf_1 wF_X7_35 (Nat.le_of_ble_eq_true rfl) (Nat.le_of_ble_eq_true rfl) hW.1 (congrArg va_rf (w7r_9 hW)) ?_
  refine x_iload_n dX7_isOf_4 rfl 1 rfl ?_
  obtain ⟨hv2, hw⟩ := hw
  refine x_ialdZ dX7_isOf_5 (w7k_9 hW) (w7z_9 hW) hv2 ?_
  refine x_iload_n dX7_isOf_6 rfl 2 rfl ?_
  refine x_icmp_eq 20 dX7_isOf_7 rfl (fun hc3 => ?_) (fun hc3 => ?_)
  · replace hw := hw.1 hc3
    exact x_sub [0] rfl (xb_X7_isOf_20 hW hw)
  · replace hw := hw.2 hc3
    refine x_aload_n dX7_isOf_10 rfl 0 rfl ?_
    refine x_get (ci := 7) (k := 11) (v := .ref (a0 + 10)) dX7_isOf_11 wF_X7_38 (Nat.le_of_ble_eq_true rfl) (Nat.le_of_ble_eq_true rfl) hW.1 (congrArg va_rf (w7r_10 hW)) ?_
    refine x_iload_n dX7_isOf_14 rfl 1 rfl ?_
    obtain ⟨hv4, hw⟩ := hw
    refine x_ialdZ dX7_isOf_15 (w7k_10 hW) (w7z_10 hW) hv4 ?_
    refine x_iload_n dX7_isOf_16 rfl 2 rfl ?_
    refine x_icmp_ne 24 dX7_isOf_17 rfl (fun hc5 => ?_) (fun hc5 => ?_)
    · replace hw := hw.2 hc5
      refine x_iconst dX7_isOf_24 cI_0 ?_
      exact x_sub [0] rfl (xb_X7_isOf_25 hW hw)
    · replace hw := hw.1 hc5
      exact x_sub [0] rfl (xb_X7_isOf_20 hW hw)
-- PromiseWireModel.ask(IIIIII)I
def wb_X7_ask_259 (Q : Int32 → xS → Prop) (σ : xS) (a0 : Nat) (l8 : Int32) (s1 : Int32) (s2 : Int32) (s3 : Int32) (s4 : Int32) (s5 : Int32) : Prop := wp_X7_sends σ a0 s1 s2 s3 s4 s5 (fun σ1 => wp_X7_doesAll σ1 a0 (fun σ2 => Q l8 σ2))
set_option maxRecDepth 100000 in
set_option maxHeartbeats 4000000 in
theorem xb_X7_ask_259 {Q : Int32 → xS → Prop} {σ : xS} {a0 : Nat}  {l8 : Int32} {s1 : Int32} {s2 : Int32} {s3 : Int32} {s4 : Int32} {s5 : Int32} (hW : xw7 σ a0)  (hw : wb_X7_ask_259 Q σ a0 l8 s1 s2 s3 s4 s5) : xX M_X7_ask 259 [(0, .ref a0), (8, .int l8)] [.int s5, .int s4, .int s3, .int s2, .int s1, .ref a0] σ (xqI (fun r σ2 => xw7 σ2 a0 ∧ Q r σ2)) := by
  unfold wb_X7_ask_259 at hw
  refine x_callV (M2 := M_X7_sends) (As := [.int s1, .int s2, .int s3, .int s4, .int s5]) (st := []) (ci := 7) (Nat.le_of_ble_eq_true rfl) hW.1 rfl wM_X7_192 wI_X7_sends wS_X7_sends dX7_ask_259 rfl ok_X7_sends ⟨(Nat.le_of_ble_eq_true rfl), (Nat.le_of_ble_eq_true rfl)⟩ (Nat.le_of_ble_eq_true rfl) (ct_X7_sends hW hw) (xqV.k (fun σ1 hw2 => ?_))
  obtain ⟨hW, hw⟩ := hw2
  refine x_aload_n dX7_ask_262 rfl 0 rfl ?_
  refine x_callV (M2 := M_X7_doesAll) (As := []) (st := []) (ci := 7) (Nat.le_of_ble_eq_true rfl) hW.1 rfl wM_X7_277 wI_X7_doesAll wS_X7_doesAll dX7_ask_263 rfl ok_X7_doesAll ⟨(Nat.le_of_ble_eq_true rfl), (Nat.le_of_ble_eq_true rfl)⟩ (Nat.le_of_ble_eq_true rfl) (ct_X7_doesAll hW hw) (xqV.k (fun σ2 hw2 => ?_))
  obtain ⟨hW, hw⟩ := hw2
  refine x_iload dX7_ask_266 1 rfl ?_
  exact x_iret dX7_ask_268 rfl ⟨l8, rfl, hW, hw⟩
def wb_X7_ask_249 (Q : Int32 → xS → Prop) (σ : xS) (a0 : Nat) (l2 : Int32) (l3 : Int32) (l8 : Int32) (s1 : Int32) (s2 : Int32) (s3 : Int32) (s4 : Int32) : Prop := (l2 = 0 → wb_X7_ask_259 Q σ a0 l8 s1 s2 s3 s4 (-9)) ∧ (¬ l2 = 0 → wb_X7_ask_259 Q σ a0 l8 s1 s2 s3 s4 l3)
set_option maxRecDepth 100000 in
set_option maxHeartbeats 4000000 in
theorem xb_X7_ask_249 {Q : Int32 → xS → Prop} {σ : xS} {a0 : Nat}  {l2 : Int32} {l3 : Int32} {l8 : Int32} {s1 : Int32} {s2 : Int32} {s3 : Int32} {s4 : Int32} (hW : xw7 σ a0)  (hw : wb_X7_ask_249 Q σ a0 l2 l3 l8 s1 s2 s3 s4) : xX M_X7_ask 249 [(0, .ref a0), (2, .int l2), (3, .int l3), (8, .int l8)] [.int s4, .int s3, .int s2, .int s1, .ref a0] σ (xqI (fun r σ2 => xw7 σ2 a0 ∧ Q r σ2)) := by
  unfold wb_X7_ask_249 at hw
  refine x_iload_n dX7_ask_249 rfl 1 rfl ?_
  refine x_if_ne 258 dX7_ask_250 rfl (fun hc3 => ?_) (fun hc3 => ?_)
  · replace hw := hw.2 hc3
    refine x_iload_n dX7_ask_258 rfl 2 rfl ?_
    exact x_sub [0, 3] rfl (xb_X7_ask_259 hW hw)
  · replace hw := hw.1 hc3
    refine x_bipush dX7_ask_253 cB_m9 ?_
    refine x_goto 259 dX7_ask_255 rfl ?_
    exact x_sub [0, 3] rfl (xb_X7_ask_259 hW hw)
def wb_X7_ask_152 (Q : Int32 → xS → Prop) (σ : xS) (a0 : Nat) (l1 : Int32) (l2 : Int32) (l3 : Int32) (l4 : Int32) (l5 : Int32) (l6 : Int32) (l8 : Int32) (s0 : Nat) (s1 : Int32) (s2 : Int32) : Prop := xh_k σ s0 = 9 ∧ vp_in s1 (xh_z σ s0) ∧ ∀ σ6, σ6 = xs_a σ s0 s1.toNatClampNeg s2 → (vp_in l8 100 ∧ ∀ σ8, σ8 = xs_a σ6 (a0 + 11) l8.toNatClampNeg 0 → (vp_in l8 100 ∧ ∀ σ10, σ10 = xs_a σ8 (a0 + 12) l8.toNatClampNeg 0 → (vp_in l8 100 ∧ ∀ σ12, σ12 = xs_a σ10 (a0 + 13) l8.toNatClampNeg 0 → (vp_in l8 100 ∧ ∀ σ14, σ14 = xs_a σ12 (a0 + 14) l8.toNatClampNeg 0 → (vp_in l8 100 ∧ ∀ σ16, σ16 = xs_a σ14 (a0 + 15) l8.toNatClampNeg 0 → (vp_in l8 100 ∧ ∀ σ18, σ18 = xs_a σ16 (a0 + 17) l8.toNatClampNeg l4 → (vp_in l8 100 ∧ ∀ σ20, σ20 = xs_a σ18 (a0 + 18) l8.toNatClampNeg l5 → (vp_in l8 100 ∧ ∀ σ22, σ22 = xs_a σ20 (a0 + 19) l8.toNatClampNeg l6 → (vp_in l8 100 ∧ ∀ σ24, σ24 = xs_a σ22 (a0 + 20) l8.toNatClampNeg (-1) → (vp_in l8 100 ∧ ((l2 = 0 → wb_X7_ask_249 Q σ24 a0 l2 l3 l8 l8 l1 (xh_a σ24 (a0 + 10) l8.toNatClampNeg) l3) ∧ (¬ l2 = 0 → wb_X7_ask_249 Q σ24 a0 l2 l3 l8 l8 l1 (xh_a σ24 (a0 + 10) l8.toNatClampNeg) (-9)))))))))))))
set_option maxRecDepth 100000 in
set_option maxHeartbeats 4000000 in
theorem xb_X7_ask_152 {Q : Int32 → xS → Prop} {σ : xS} {a0 : Nat}  {l1 : Int32} {l2 : Int32} {l3 : Int32} {l4 : Int32} {l5 : Int32} {l6 : Int32} {l8 : Int32} {s0 : Nat} {s1 : Int32} {s2 : Int32} (hW : xw7 σ a0)  (hw : wb_X7_ask_152 Q σ a0 l1 l2 l3 l4 l5 l6 l8 s0 s1 s2) : xX M_X7_ask 152 [(0, .ref a0), (1, .int l1), (2, .int l2), (3, .int l3), (4, .int l4), (5, .int l5), (6, .int l6), (8, .int l8)] [.int s2, .int s1, .ref s0] σ (xqI (fun r σ2 => xw7 σ2 a0 ∧ Q r σ2)) := by
  unfold wb_X7_ask_152 at hw
  obtain ⟨hk4, hw⟩ := hw
  obtain ⟨hv5, hw⟩ := hw
  refine x_iastN dX7_ask_152 hk4 rfl hv5 (fun σ6 hσ6 => ?_)
  replace hw := hw σ6 hσ6
  refine x_aload_n dX7_ask_153 rfl 0 rfl ?_
  have hW := (xw7_a hσ6 hW)
  refine x_get (ci := 7) (k := 12) (v := .ref (a0 + 11)) dX7_ask_154 wF_X7_41 (Nat.le_of_ble_eq_true rfl) (Nat.le_of_ble_eq_true rfl) hW.1 (congrArg va_rf (w7r_11 hW)) ?_
  refine x_iload dX7_ask_157 7 rfl ?_
  refine x_iconst dX7_ask_159 cI_0 ?_
  obtain ⟨hv7, hw⟩ := hw
  refine x_iastN dX7_ask_160 (w7k_11 hW) (w7z_11 hW) hv7 (fun σ8 hσ8 => ?_)
  replace hw := hw σ8 hσ8
  refine x_aload_n dX7_ask_161 rfl 0 rfl ?_
  have hW := (xw7_a hσ8 hW)
  refine x_get (ci := 7) (k := 13) (v := .ref (a0 + 12)) dX7_ask_162 wF_X7_44 (Nat.le_of_ble_eq_true rfl) (Nat.le_of_ble_eq_true rfl) hW.1 (congrArg va_rf (w7r_12 hW)) ?_
  refine x_iload dX7_ask_165 7 rfl ?_
  refine x_iconst dX7_ask_167 cI_0 ?_
  obtain ⟨hv9, hw⟩ := hw
  refine x_iastN dX7_ask_168 (w7k_12 hW) (w7z_12 hW) hv9 (fun σ10 hσ10 => ?_)
  replace hw := hw σ10 hσ10
  refine x_aload_n dX7_ask_169 rfl 0 rfl ?_
  have hW := (xw7_a hσ10 hW)
  refine x_get (ci := 7) (k := 14) (v := .ref (a0 + 13)) dX7_ask_170 wF_X7_47 (Nat.le_of_ble_eq_true rfl) (Nat.le_of_ble_eq_true rfl) hW.1 (congrArg va_rf (w7r_13 hW)) ?_
  refine x_iload dX7_ask_173 7 rfl ?_
  refine x_iconst dX7_ask_175 cI_0 ?_
  obtain ⟨hv11, hw⟩ := hw
  refine x_iastN dX7_ask_176 (w7k_13 hW) (w7z_13 hW) hv11 (fun σ12 hσ12 => ?_)
  replace hw := hw σ12 hσ12
  refine x_aload_n dX7_ask_177 rfl 0 rfl ?_
  have hW := (xw7_a hσ12 hW)
  refine x_get (ci := 7) (k := 15) (v := .ref (a0 + 14)) dX7_ask_178 wF_X7_50 (Nat.le_of_ble_eq_true rfl) (Nat.le_of_ble_eq_true rfl) hW.1 (congrArg va_rf (w7r_14 hW)) ?_
  refine x_iload dX7_ask_181 7 rfl ?_
  refine x_iconst dX7_ask_183 cI_0 ?_
  obtain ⟨hv13, hw⟩ := hw
  refine x_iastN dX7_ask_184 (w7k_14 hW) (w7z_14 hW) hv13 (fun σ14 hσ14 => ?_)
  replace hw := hw σ14 hσ14
  refine x_aload_n dX7_ask_185 rfl 0 rfl ?_
  have hW := (xw7_a hσ14 hW)
  refine x_get (ci := 7) (k := 16) (v := .ref (a0 + 15)) dX7_ask_186 wF_X7_53 (Nat.le_of_ble_eq_true rfl) (Nat.le_of_ble_eq_true rfl) hW.1 (congrArg va_rf (w7r_15 hW)) ?_
  refine x_iload dX7_ask_189 7 rfl ?_
  refine x_iconst dX7_ask_191 cI_0 ?_
  obtain ⟨hv15, hw⟩ := hw
  refine x_iastN dX7_ask_192 (w7k_15 hW) (w7z_15 hW) hv15 (fun σ16 hσ16 => ?_)
  replace hw := hw σ16 hσ16
  refine x_aload_n dX7_ask_193 rfl 0 rfl ?_
  have hW := (xw7_a hσ16 hW)
  refine x_get (ci := 7) (k := 18) (v := .ref (a0 + 17)) dX7_ask_194 wF_X7_59 (Nat.le_of_ble_eq_true rfl) (Nat.le_of_ble_eq_true rfl) hW.1 (congrArg va_rf (w7r_17 hW)) ?_
  refine x_iload dX7_ask_197 7 rfl ?_
  refine x_iload dX7_ask_199 4 rfl ?_
  obtain ⟨hv17, hw⟩ := hw
  refine x_iastN dX7_ask_201 (w7k_17 hW) (w7z_17 hW) hv17 (fun σ18 hσ18 => ?_)
  replace hw := hw σ18 hσ18
  refine x_aload_n dX7_ask_202 rfl 0 rfl ?_
  have hW := (xw7_a hσ18 hW)
  refine x_get (ci := 7) (k := 19) (v := .ref (a0 + 18)) dX7_ask_203 wF_X7_62 (Nat.le_of_ble_eq_true rfl) (Nat.le_of_ble_eq_true rfl) hW.1 (congrArg va_rf (w7r_18 hW)) ?_
  refine x_iload dX7_ask_206 7 rfl ?_
  refine x_iload dX7_ask_208 5 rfl ?_
  obtain ⟨hv19, hw⟩ := hw
  refine x_iastN dX7_ask_210 (w7k_18 hW) (w7z_18 hW) hv19 (fun σ20 hσ20 => ?_)
  replace hw := hw σ20 hσ20
  refine x_aload_n dX7_ask_211 rfl 0 rfl ?_
  have hW := (xw7_a hσ20 hW)
  refine x_get (ci := 7) (k := 20) (v := .ref (a0 + 19)) dX7_ask_212 wF_X7_65 (Nat.le_of_ble_eq_true rfl) (Nat.le_of_ble_eq_true rfl) hW.1 (congrArg va_rf (w7r_19 hW)) ?_
  refine x_iload dX7_ask_215 7 rfl ?_
  refine x_iload dX7_ask_217 6 rfl ?_
  obtain ⟨hv21, hw⟩ := hw
  refine x_iastN dX7_ask_219 (w7k_19 hW) (w7z_19 hW) hv21 (fun σ22 hσ22 => ?_)
  replace hw := hw σ22 hσ22
  refine x_aload_n dX7_ask_220 rfl 0 rfl ?_
  have hW := (xw7_a hσ22 hW)
  refine x_get (ci := 7) (k := 21) (v := .ref (a0 + 20)) dX7_ask_221 wF_X7_68 (Nat.le_of_ble_eq_true rfl) (Nat.le_of_ble_eq_true rfl) hW.1 (congrArg va_rf (w7r_20 hW)) ?_
  refine x_iload dX7_ask_224 7 rfl ?_
  refine x_iconst dX7_ask_226 cI_m1 ?_
  obtain ⟨hv23, hw⟩ := hw
  refine x_iastN dX7_ask_227 (w7k_20 hW) (w7z_20 hW) hv23 (fun σ24 hσ24 => ?_)
  replace hw := hw σ24 hσ24
  refine x_aload_n dX7_ask_228 rfl 0 rfl ?_
  refine x_iload dX7_ask_229 7 rfl ?_
  refine x_iload_n dX7_ask_231 rfl 1 rfl ?_
  refine x_aload_n dX7_ask_232 rfl 0 rfl ?_
  have hW := (xw7_a hσ24 hW)
  refine x_get (ci := 7) (k := 11) (v := .ref (a0 + 10)) dX7_ask_233 wF_X7_38 (Nat.le_of_ble_eq_true rfl) (Nat.le_of_ble_eq_true rfl) hW.1 (congrArg va_rf (w7r_10 hW)) ?_
  refine x_iload dX7_ask_236 7 rfl ?_
  obtain ⟨hv25, hw⟩ := hw
  refine x_ialdZ dX7_ask_238 (w7k_10 hW) (w7z_10 hW) hv25 ?_
  refine x_iload_n dX7_ask_239 rfl 2 rfl ?_
  refine x_if_ne 247 dX7_ask_240 rfl (fun hc26 => ?_) (fun hc26 => ?_)
  · replace hw := hw.2 hc26
    refine x_bipush dX7_ask_247 cB_m9 ?_
    exact x_sub [0, 2, 3, 7] rfl (xb_X7_ask_249 hW hw)
  · replace hw := hw.1 hc26
    refine x_iload_n dX7_ask_243 rfl 3 rfl ?_
    refine x_goto 249 dX7_ask_244 rfl ?_
    exact x_sub [0, 2, 3, 7] rfl (xb_X7_ask_249 hW hw)
def wb_X7_ask_91 (Q : Int32 → xS → Prop) (σ : xS) (a0 : Nat) (l1 : Int32) (l2 : Int32) (l3 : Int32) (l4 : Int32) (l5 : Int32) (l6 : Int32) : Prop := ((xh_I σ 457 a0) = 100 → Q (-3) σ) ∧ (¬ (xh_I σ 457 a0) = 100 → ∀ σ28, σ28 = xs_I σ 457 a0 ((xh_I σ 457 a0) + 1) → (vp_in (xh_I σ 457 a0) 100 ∧ ∀ σ30, σ30 = xs_a σ28 (a0 + 9) (xh_I σ 457 a0).toNatClampNeg l1 → ((l2 = 0 → vp_in l3 40 ∧ (wb_X7_ask_152 Q σ30 a0 l1 l2 l3 l4 l5 l6 (xh_I σ 457 a0) (a0 + 10) (xh_I σ 457 a0) (xh_a σ30 (a0 + 1) l3.toNatClampNeg))) ∧ (¬ l2 = 0 → vp_in l3 100 ∧ (wb_X7_ask_152 Q σ30 a0 l1 l2 l3 l4 l5 l6 (xh_I σ 457 a0) (a0 + 10) (xh_I σ 457 a0) (xh_a σ30 (a0 + 10) l3.toNatClampNeg))))))
set_option maxRecDepth 100000 in
set_option maxHeartbeats 4000000 in
theorem xb_X7_ask_91 {Q : Int32 → xS → Prop} {σ : xS} {a0 : Nat}  {l1 : Int32} {l2 : Int32} {l3 : Int32} {l4 : Int32} {l5 : Int32} {l6 : Int32} (hW : xw7 σ a0)  (hw : wb_X7_ask_91 Q σ a0 l1 l2 l3 l4 l5 l6) : xX M_X7_ask 91 [(0, .ref a0), (1, .int l1), (2, .int l2), (3, .int l3), (4, .int l4), (5, .int l5), (6, .int l6)] [] σ (xqI (fun r σ2 => xw7 σ2 a0 ∧ Q r σ2)) := by
  unfold wb_X7_ask_91 at hw
  refine x_aload_n dX7_ask_91 rfl 0 rfl ?_
  refine x_get (ci := 7) (k := 9) (v := .int (xh_I σ 457 a0)) dX7_ask_92 wF_X7_136 (Nat.le_of_ble_eq_true rfl) (Nat.le_of_ble_eq_true rfl) hW.1 rfl ?_
  refine x_bipush dX7_ask_95 cB_100 ?_
  refine x_icmp_ne 103 dX7_ask_97 rfl (fun hc27 => ?_) (fun hc27 => ?_)
  · replace hw := hw.2 hc27
    refine x_aload_n dX7_ask_103 rfl 0 rfl ?_
    refine x_get (ci := 7) (k := 9) (v := .int (xh_I σ 457 a0)) dX7_ask_104 wF_X7_136 (Nat.le_of_ble_eq_true rfl) (Nat.le_of_ble_eq_true rfl) hW.1 rfl ?_
    refine x_istore [(8, .int (xh_I σ 457 a0)), (0, .ref a0), (1, .int l1), (2, .int l2), (3, .int l3), (4, .int l4), (5, .int l5), (6, .int l6)] dX7_ask_107 (Nat.le_of_ble_eq_true rfl) rfl ?_
    refine x_aload_n dX7_ask_109 rfl 1 rfl ?_
    refine x_dup dX7_ask_110 rfl ?_
    refine x_get (ci := 7) (k := 9) (v := .int (xh_I σ 457 a0)) dX7_ask_111 wF_X7_136 (Nat.le_of_ble_eq_true rfl) (Nat.le_of_ble_eq_true rfl) hW.1 rfl ?_
    refine x_iconst dX7_ask_114 cI_1 ?_
    refine x_iadd dX7_ask_115 ?_
    refine x_putIN (ci := 7) (k := 9) (f := 457) dX7_ask_116 wF_X7_136 (Nat.le_of_ble_eq_true rfl) (Nat.le_of_ble_eq_true rfl) hW.1 (Or.inl rfl) rfl (Or.inl rfl) (fun σ28 hσ28 => ?_)
    replace hw := hw σ28 hσ28
    refine x_aload_n dX7_ask_119 rfl 1 rfl ?_
    have hW := (xw7_I hσ28 hW)
    refine x_get (ci := 7) (k := 10) (v := .ref (a0 + 9)) dX7_ask_120 wF_X7_35 (Nat.le_of_ble_eq_true rfl) (Nat.le_of_ble_eq_true rfl) hW.1 (congrArg va_rf (w7r_9 hW)) ?_
    refine x_iload dX7_ask_123 0 rfl ?_
    refine x_iload_n dX7_ask_125 rfl 2 rfl ?_
    obtain ⟨hv29, hw⟩ := hw
    refine x_iastN dX7_ask_126 (w7k_9 hW) (w7z_9 hW) hv29 (fun σ30 hσ30 => ?_)
    replace hw := hw σ30 hσ30
    refine x_aload_n dX7_ask_127 rfl 1 rfl ?_
    have hW := (xw7_a hσ30 hW)
    refine x_get (ci := 7) (k := 11) (v := .ref (a0 + 10)) dX7_ask_128 wF_X7_38 (Nat.le_of_ble_eq_true rfl) (Nat.le_of_ble_eq_true rfl) hW.1 (congrArg va_rf (w7r_10 hW)) ?_
    refine x_iload dX7_ask_131 0 rfl ?_
    refine x_iload_n dX7_ask_133 rfl 3 rfl ?_
    refine x_if_ne 146 dX7_ask_134 rfl (fun hc31 => ?_) (fun hc31 => ?_)
    · replace hw := hw.2 hc31
      refine x_aload_n dX7_ask_146 rfl 1 rfl ?_
      refine x_get (ci := 7) (k := 11) (v := .ref (a0 + 10)) dX7_ask_147 wF_X7_38 (Nat.le_of_ble_eq_true rfl) (Nat.le_of_ble_eq_true rfl) hW.1 (congrArg va_rf (w7r_10 hW)) ?_
      refine x_iload_n dX7_ask_150 rfl 4 rfl ?_
      obtain ⟨hv32, hw⟩ := hw
      refine x_ialdZ dX7_ask_151 (w7k_10 hW) (w7z_10 hW) hv32 ?_
      exact x_sub [1, 2, 3, 4, 5, 6, 7, 0] rfl (xb_X7_ask_152 hW hw)
    · replace hw := hw.1 hc31
      refine x_aload_n dX7_ask_137 rfl 1 rfl ?_
      refine x_get (ci := 7) (k := 1) (v := .ref (a0 + 1)) dX7_ask_138 wF_X7_7 (Nat.le_of_ble_eq_true rfl) (Nat.le_of_ble_eq_true rfl) hW.1 (congrArg va_rf (w7r_1 hW)) ?_
      refine x_iload_n dX7_ask_141 rfl 4 rfl ?_
      obtain ⟨hv33, hw⟩ := hw
      refine x_ialdZ dX7_ask_142 (w7k_1 hW) (w7z_1 hW) hv33 ?_
      refine x_goto 152 dX7_ask_143 rfl ?_
      exact x_sub [1, 2, 3, 4, 5, 6, 7, 0] rfl (xb_X7_ask_152 hW hw)
  · replace hw := hw.1 hc27
    refine x_bipush dX7_ask_100 cB_m3 ?_
    exact x_iret dX7_ask_102 rfl ⟨(-3), rfl, hW, hw⟩
def wb_X7_ask_74 (Q : Int32 → xS → Prop) (σ : xS) (a0 : Nat) (l1 : Int32) (l2 : Int32) (l3 : Int32) (l4 : Int32) (l5 : Int32) (l6 : Int32) : Prop := (l2 = 1 → wp_X7_isOf σ a0 l3 l1 (fun x35 => (x35 = 0 → Q (-2) σ) ∧ (¬ x35 = 0 → wb_X7_ask_91 Q σ a0 l1 l2 l3 l4 l5 l6))) ∧ (¬ l2 = 1 → wb_X7_ask_91 Q σ a0 l1 l2 l3 l4 l5 l6)
set_option maxRecDepth 100000 in
set_option maxHeartbeats 4000000 in
theorem xb_X7_ask_74 {Q : Int32 → xS → Prop} {σ : xS} {a0 : Nat}  {l1 : Int32} {l2 : Int32} {l3 : Int32} {l4 : Int32} {l5 : Int32} {l6 : Int32} (hW : xw7 σ a0)  (hw : wb_X7_ask_74 Q σ a0 l1 l2 l3 l4 l5 l6) : xX M_X7_ask 74 [(0, .ref a0), (1, .int l1), (2, .int l2), (3, .int l3), (4, .int l4), (5, .int l5), (6, .int l6)] [] σ (xqI (fun r σ2 => xw7 σ2 a0 ∧ Q r σ2)) := by
  unfold wb_X7_ask_74 at hw
  refine x_iload_n dX7_ask_74 rfl 2 rfl ?_
  refine x_iconst dX7_ask_75 cI_1 ?_
  refine x_icmp_ne 91 dX7_ask_76 rfl (fun hc34 => ?_) (fun hc34 => ?_)
  · replace hw := hw.2 hc34
    exact x_sub [0, 1, 2, 3, 4, 5, 6] rfl (xb_X7_ask_91 hW hw)
  · replace hw := hw.1 hc34
    refine x_aload_n dX7_ask_79 rfl 0 rfl ?_
    refine x_iload_n dX7_ask_80 rfl 3 rfl ?_
    refine x_iload_n dX7_ask_81 rfl 1 rfl ?_
    refine x_callV (M2 := M_X7_isOf) (As := [.int l3, .int l1]) (st := []) (ci := 7) (Nat.le_of_ble_eq_true rfl) hW.1 rfl wM_X7_283 wI_X7_isOf wS_X7_isOf dX7_ask_82 rfl ok_X7_isOf ⟨(Nat.le_of_ble_eq_true rfl), (Nat.le_of_ble_eq_true rfl)⟩ (Nat.le_of_ble_eq_true rfl) (ct_X7_isOf hW hw) (xqI.k (fun x35 τ36 hw2 => ?_))
    obtain ⟨he, hw⟩ := hw2
    subst he
    refine x_if_ne 91 dX7_ask_85 rfl (fun hc37 => ?_) (fun hc37 => ?_)
    · replace hw := hw.2 hc37
      exact x_sub [0, 1, 2, 3, 4, 5, 6] rfl (xb_X7_ask_91 hW hw)
    · replace hw := hw.1 hc37
      refine x_bipush dX7_ask_88 cB_m2 ?_
      exact x_iret dX7_ask_90 rfl ⟨(-2), rfl, hW, hw⟩
def wb_X7_ask_72 (Q : Int32 → xS → Prop) (σ : xS) (a0 : Nat) : Prop := Q (-1) σ
set_option maxRecDepth 100000 in
set_option maxHeartbeats 4000000 in
theorem xb_X7_ask_72 {Q : Int32 → xS → Prop} {σ : xS} {a0 : Nat}  (hW : xw7 σ a0)  (hw : wb_X7_ask_72 Q σ a0) : xX M_X7_ask 72 [(0, .ref a0)] [] σ (xqI (fun r σ2 => xw7 σ2 a0 ∧ Q r σ2)) := by
  unfold wb_X7_ask_72 at hw
  refine x_iconst dX7_ask_72 cI_m1 ?_
  exact x_iret dX7_ask_73 rfl ⟨(-1), rfl, hW, hw⟩
def wb_X7_ask_30 (Q : Int32 → xS → Prop) (σ : xS) (a0 : Nat) (l1 : Int32) (l2 : Int32) (l3 : Int32) (l4 : Int32) (l5 : Int32) (l6 : Int32) (s0 : Int32) : Prop := wp_X7_in σ l1 0 3 (fun x38 => (x38 = 0 → wb_X7_ask_72 Q σ a0) ∧ (¬ x38 = 0 → (s0 = 0 → wb_X7_ask_72 Q σ a0) ∧ (¬ s0 = 0 → wp_X7_in σ l4 0 7 (fun x42 => (x42 = 0 → wb_X7_ask_72 Q σ a0) ∧ (¬ x42 = 0 → (l4 = 4 → wp_X7_isThing σ a0 l6 (fun x46 => (x46 = 0 → wb_X7_ask_72 Q σ a0) ∧ (¬ x46 = 0 → wb_X7_ask_74 Q σ a0 l1 l2 l3 l4 l5 l6))) ∧ (¬ l4 = 4 → wb_X7_ask_74 Q σ a0 l1 l2 l3 l4 l5 l6))))))
set_option maxRecDepth 100000 in
set_option maxHeartbeats 4000000 in
theorem xb_X7_ask_30 {Q : Int32 → xS → Prop} {σ : xS} {a0 : Nat}  {l1 : Int32} {l2 : Int32} {l3 : Int32} {l4 : Int32} {l5 : Int32} {l6 : Int32} {s0 : Int32} (hW : xw7 σ a0)  (hw : wb_X7_ask_30 Q σ a0 l1 l2 l3 l4 l5 l6 s0) : xX M_X7_ask 30 [(0, .ref a0), (1, .int l1), (2, .int l2), (3, .int l3), (4, .int l4), (5, .int l5), (6, .int l6)] [.int s0] σ (xqI (fun r σ2 => xw7 σ2 a0 ∧ Q r σ2)) := by
  unfold wb_X7_ask_30 at hw
  refine x_istore [(7, .int s0), (0, .ref a0), (1, .int l1), (2, .int l2), (3, .int l3), (4, .int l4), (5, .int l5), (6, .int l6)] dX7_ask_30 (Nat.le_of_ble_eq_true rfl) rfl ?_
  refine x_iload_n dX7_ask_32 rfl 2 rfl ?_
  refine x_iconst dX7_ask_33 cI_0 ?_
  refine x_iconst dX7_ask_34 cI_3 ?_
  refine x_callS (M2 := M_X7_in) (As := [.int l1, .int 0, .int 3]) (st := []) wM_X7_132 wZ_X7_in dX7_ask_35 rfl ok_X7_in ⟨(Nat.le_of_ble_eq_true rfl), (Nat.le_of_ble_eq_true rfl)⟩ (Nat.le_of_ble_eq_true rfl) (ct_X7_in hw) (xqI.k (fun x38 τ39 hw2 => ?_))
  obtain ⟨he, hw⟩ := hw2
  subst he
  refine x_if_eq 72 dX7_ask_38 rfl (fun hc40 => ?_) (fun hc40 => ?_)
  · replace hw := hw.1 hc40
    exact x_sub [1] rfl (xb_X7_ask_72 hW hw)
  · replace hw := hw.2 hc40
    refine x_iload dX7_ask_41 0 rfl ?_
    refine x_if_eq 72 dX7_ask_43 rfl (fun hc41 => ?_) (fun hc41 => ?_)
    · replace hw := hw.1 hc41
      exact x_sub [1] rfl (xb_X7_ask_72 hW hw)
    · replace hw := hw.2 hc41
      refine x_iload dX7_ask_46 5 rfl ?_
      refine x_iconst dX7_ask_48 cI_0 ?_
      refine x_bipush dX7_ask_49 cB_7 ?_
      refine x_callS (M2 := M_X7_in) (As := [.int l4, .int 0, .int 7]) (st := []) wM_X7_132 wZ_X7_in dX7_ask_51 rfl ok_X7_in ⟨(Nat.le_of_ble_eq_true rfl), (Nat.le_of_ble_eq_true rfl)⟩ (Nat.le_of_ble_eq_true rfl) (ct_X7_in hw) (xqI.k (fun x42 τ43 hw2 => ?_))
      obtain ⟨he, hw⟩ := hw2
      subst he
      refine x_if_eq 72 dX7_ask_54 rfl (fun hc44 => ?_) (fun hc44 => ?_)
      · replace hw := hw.1 hc44
        exact x_sub [1] rfl (xb_X7_ask_72 hW hw)
      · replace hw := hw.2 hc44
        refine x_iload dX7_ask_57 5 rfl ?_
        refine x_iconst dX7_ask_59 cI_4 ?_
        refine x_icmp_ne 74 dX7_ask_60 rfl (fun hc45 => ?_) (fun hc45 => ?_)
        · replace hw := hw.2 hc45
          exact x_sub [1, 2, 3, 4, 5, 6, 7] rfl (xb_X7_ask_74 hW hw)
        · replace hw := hw.1 hc45
          refine x_aload_n dX7_ask_63 rfl 1 rfl ?_
          refine x_iload dX7_ask_64 7 rfl ?_
          refine x_callV (M2 := M_X7_isThing) (As := [.int l6]) (st := []) (ci := 7) (Nat.le_of_ble_eq_true rfl) hW.1 rfl wM_X7_143 wI_X7_isThing wS_X7_isThing dX7_ask_66 rfl ok_X7_isThing ⟨(Nat.le_of_ble_eq_true rfl), (Nat.le_of_ble_eq_true rfl)⟩ (Nat.le_of_ble_eq_true rfl) (ct_X7_isThing hW hw) (xqI.k (fun x46 τ47 hw2 => ?_))
          obtain ⟨he, hw⟩ := hw2
          subst he
          refine x_if_ne 74 dX7_ask_69 rfl (fun hc48 => ?_) (fun hc48 => ?_)
          · replace hw := hw.2 hc48
            exact x_sub [1, 2, 3, 4, 5, 6, 7] rfl (xb_X7_ask_74 hW hw)
          · replace hw := hw.1 hc48
            exact x_sub [1] rfl (xb_X7_ask_72 hW hw)
def wb_X7_ask_29 (Q : Int32 → xS → Prop) (σ : xS) (a0 : Nat) (l1 : Int32) (l2 : Int32) (l3 : Int32) (l4 : Int32) (l5 : Int32) (l6 : Int32) : Prop := wb_X7_ask_30 Q σ a0 l1 l2 l3 l4 l5 l6 0
set_option maxRecDepth 100000 in
set_option maxHeartbeats 4000000 in
theorem xb_X7_ask_29 {Q : Int32 → xS → Prop} {σ : xS} {a0 : Nat}  {l1 : Int32} {l2 : Int32} {l3 : Int32} {l4 : Int32} {l5 : Int32} {l6 : Int32} (hW : xw7 σ a0)  (hw : wb_X7_ask_29 Q σ a0 l1 l2 l3 l4 l5 l6) : xX M_X7_ask 29 [(0, .ref a0), (1, .int l1), (2, .int l2), (3, .int l3), (4, .int l4), (5, .int l5), (6, .int l6)] [] σ (xqI (fun r σ2 => xw7 σ2 a0 ∧ Q r σ2)) := by
  unfold wb_X7_ask_29 at hw
  refine x_iconst dX7_ask_29 cI_0 ?_
  exact x_sub [0, 1, 2, 3, 4, 5, 6] rfl (xb_X7_ask_30 hW hw)
def wp_X7_ask (σ : xS) (a0 : Nat) (l1 : Int32) (l2 : Int32) (l3 : Int32) (l4 : Int32) (l5 : Int32) (l6 : Int32) (Q : Int32 → xS → Prop) : Prop := (l2 = 0 → wp_X7_isThing σ a0 l3 (fun x54 => wb_X7_ask_30 Q σ a0 l1 l2 l3 l4 l5 l6 x54)) ∧ (¬ l2 = 0 → (l2 = 1 → wp_X7_isPromise σ a0 l3 (fun x51 => (x51 = 0 → wb_X7_ask_29 Q σ a0 l1 l2 l3 l4 l5 l6) ∧ (¬ x51 = 0 → wb_X7_ask_30 Q σ a0 l1 l2 l3 l4 l5 l6 1))) ∧ (¬ l2 = 1 → wb_X7_ask_29 Q σ a0 l1 l2 l3 l4 l5 l6))
set_option maxRecDepth 100000 in
set_option maxHeartbeats 4000000 in
theorem ct_X7_ask {σ : xS} {a0 : Nat}  {l1 : Int32} {l2 : Int32} {l3 : Int32} {l4 : Int32} {l5 : Int32} {l6 : Int32} {Q : Int32 → xS → Prop} (hW : xw7 σ a0) (hw : wp_X7_ask σ a0 l1 l2 l3 l4 l5 l6 Q) : xCt M_X7_ask [.ref a0, .int l1, .int l2, .int l3, .int l4, .int l5, .int l6] σ (xqI (fun r σ2 => xw7 σ2 a0 ∧ Q r σ2)) := by
  refine xCt_ofL (lv := [(0, .ref a0), (1, .int l1), (2, .int l2), (3, .int l3), (4, .int l4), (5, .int l5), (6, .int l6)]) pn_X7 (Nat.le_of_ble_eq_true rfl) rfl ?_
  unfold wp_X7_ask at hw
  refine x_iload_n dX7_ask_0 rfl 2 rfl ?_
  refine x_if_ne 12 dX7_ask_1 rfl (fun hc49 => ?_) (fun hc49 => ?_)
  · replace hw := hw.2 hc49
    refine x_iload_n dX7_ask_12 rfl 2 rfl ?_
    refine x_iconst dX7_ask_13 cI_1 ?_
    refine x_icmp_ne 29 dX7_ask_14 rfl (fun hc50 => ?_) (fun hc50 => ?_)
    · replace hw := hw.2 hc50
      exact x_sub [0, 1, 2, 3, 4, 5, 6] rfl (xb_X7_ask_29 hW hw)
    · replace hw := hw.1 hc50
      refine x_aload_n dX7_ask_17 rfl 0 rfl ?_
      refine x_iload_n dX7_ask_18 rfl 3 rfl ?_
      refine x_callV (M2 := M_X7_isPromise) (As := [.int l3]) (st := []) (ci := 7) (Nat.le_of_ble_eq_true rfl) hW.1 rfl wM_X7_280 wI_X7_isPromise wS_X7_isPromise dX7_ask_19 rfl ok_X7_isPromise ⟨(Nat.le_of_ble_eq_true rfl), (Nat.le_of_ble_eq_true rfl)⟩ (Nat.le_of_ble_eq_true rfl) (ct_X7_isPromise hW hw) (xqI.k (fun x51 τ52 hw2 => ?_))
      obtain ⟨he, hw⟩ := hw2
      subst he
      refine x_if_eq 29 dX7_ask_22 rfl (fun hc53 => ?_) (fun hc53 => ?_)
      · replace hw := hw.1 hc53
        exact x_sub [0, 1, 2, 3, 4, 5, 6] rfl (xb_X7_ask_29 hW hw)
      · replace hw := hw.2 hc53
        refine x_iconst dX7_ask_25 cI_1 ?_
        refine x_goto 30 dX7_ask_26 rfl ?_
        exact x_sub [0, 1, 2, 3, 4, 5, 6] rfl (xb_X7_ask_30 hW hw)
  · replace hw := hw.1 hc49
    refine x_aload_n dX7_ask_4 rfl 0 rfl ?_
    refine x_iload_n dX7_ask_5 rfl 3 rfl ?_
    refine x_callV (M2 := M_X7_isThing) (As := [.int l3]) (st := []) (ci := 7) (Nat.le_of_ble_eq_true rfl) hW.1 rfl wM_X7_143 wI_X7_isThing wS_X7_isThing dX7_ask_6 rfl ok_X7_isThing ⟨(Nat.le_of_ble_eq_true rfl), (Nat.le_of_ble_eq_true rfl)⟩ (Nat.le_of_ble_eq_true rfl) (ct_X7_isThing hW hw) (xqI.k (fun x54 τ55 hw2 => ?_))
    obtain ⟨he, hw⟩ := hw2
    subst he
    refine x_goto 30 dX7_ask_9 rfl ?_
    exact x_sub [0, 1, 2, 3, 4, 5, 6] rfl (xb_X7_ask_30 hW hw)
-- PromiseWireModel.stateIn(II)I
def wb_X7_stateIn_25 (Q : Int32 → Prop) (σ : xS) (a0 : Nat) (s0 : Int32) : Prop := Q s0
set_option maxRecDepth 100000 in
set_option maxHeartbeats 4000000 in
theorem xb_X7_stateIn_25 {Q : Int32 → Prop} {σ : xS} {a0 : Nat}  {s0 : Int32} (hW : xw7 σ a0)  (hw : wb_X7_stateIn_25 Q σ a0 s0) : xX M_X7_stateIn 25 [(0, .ref a0)] [.int s0] σ (xqI (fun r σ2 => σ = σ2 ∧ Q r )) := by
  unfold wb_X7_stateIn_25 at hw
  exact x_iret dX7_stateIn_25 rfl ⟨s0, rfl, rfl, hw⟩
def wp_X7_stateIn (σ : xS) (a0 : Nat) (l1 : Int32) (l2 : Int32) (Q : Int32 → Prop) : Prop := vp_in l1 100 ∧ (((xh_a σ (a0 + 10) l1.toNatClampNeg) = l2 → vp_in l1 100 ∧ (wb_X7_stateIn_25 Q σ a0 (xh_a σ (a0 + 11) l1.toNatClampNeg))) ∧ (¬ (xh_a σ (a0 + 10) l1.toNatClampNeg) = l2 → vp_in l1 100 ∧ (wb_X7_stateIn_25 Q σ a0 (xh_a σ (a0 + 13) l1.toNatClampNeg))))
set_option maxRecDepth 100000 in
set_option maxHeartbeats 4000000 in
theorem ct_X7_stateIn {σ : xS} {a0 : Nat}  {l1 : Int32} {l2 : Int32} {Q : Int32 → Prop} (hW : xw7 σ a0) (hw : wp_X7_stateIn σ a0 l1 l2 Q) : xCt M_X7_stateIn [.ref a0, .int l1, .int l2] σ (xqI (fun r σ2 => σ = σ2 ∧ Q r )) := by
  refine xCt_ofL (lv := [(0, .ref a0), (1, .int l1), (2, .int l2)]) pn_X7 (Nat.le_of_ble_eq_true rfl) rfl ?_
  unfold wp_X7_stateIn at hw
  refine x_aload_n dX7_stateIn_0 rfl 0 rfl ?_
  refine x_get (ci := 7) (k := 11) (v := .ref (a0 + 10)) dX7_stateIn_1 wF_X7_38 (Nat.le_of_ble_eq_true rfl) (Nat.le_of_ble_eq_true rfl) hW.1 (congrArg va_rf (w7r_10 hW)) ?_
  refine x_iload_n dX7_stateIn_4 rfl 1 rfl ?_
  obtain ⟨hv1, hw⟩ := hw
  refine x_ialdZ dX7_stateIn_5 (w7k_10 hW) (w7z_10 hW) hv1 ?_
  refine x_iload_n dX7_stateIn_6 rfl 2 rfl ?_
  refine x_icmp_ne 19 dX7_stateIn_7 rfl (fun hc2 => ?_) (fun hc2 => ?_)
  · replace hw := hw.2 hc2
    refine x_aload_n dX7_stateIn_19 rfl 0 rfl ?_
    refine x_get (ci := 7) (k := 14) (v := .ref (a0 + 13)) dX7_stateIn_20 wF_X7_47 (Nat.le_of_ble_eq_true rfl) (Nat.le_of_ble_eq_true rfl) hW.1 (congrArg va_rf (w7r_13 hW)) ?_
    refine x_iload_n dX7_stateIn_23 rfl 1 rfl ?_
    obtain ⟨hv3, hw⟩ := hw
    refine x_ialdZ dX7_stateIn_24 (w7k_13 hW) (w7z_13 hW) hv3 ?_
    exact x_sub [0] rfl (xb_X7_stateIn_25 hW hw)
  · replace hw := hw.1 hc2
    refine x_aload_n dX7_stateIn_10 rfl 0 rfl ?_
    refine x_get (ci := 7) (k := 12) (v := .ref (a0 + 11)) dX7_stateIn_11 wF_X7_41 (Nat.le_of_ble_eq_true rfl) (Nat.le_of_ble_eq_true rfl) hW.1 (congrArg va_rf (w7r_11 hW)) ?_
    refine x_iload_n dX7_stateIn_14 rfl 1 rfl ?_
    obtain ⟨hv4, hw⟩ := hw
    refine x_ialdZ dX7_stateIn_15 (w7k_11 hW) (w7z_11 hW) hv4 ?_
    refine x_goto 25 dX7_stateIn_16 rfl ?_
    exact x_sub [0] rfl (xb_X7_stateIn_25 hW hw)
-- PromiseWireModel.valueIn(II)I
def wb_X7_valueIn_25 (Q : Int32 → Prop) (σ : xS) (a0 : Nat) (s0 : Int32) : Prop := Q s0
set_option maxRecDepth 100000 in
set_option maxHeartbeats 4000000 in
theorem xb_X7_valueIn_25 {Q : Int32 → Prop} {σ : xS} {a0 : Nat}  {s0 : Int32} (hW : xw7 σ a0)  (hw : wb_X7_valueIn_25 Q σ a0 s0) : xX M_X7_valueIn 25 [(0, .ref a0)] [.int s0] σ (xqI (fun r σ2 => σ = σ2 ∧ Q r )) := by
  unfold wb_X7_valueIn_25 at hw
  exact x_iret dX7_valueIn_25 rfl ⟨s0, rfl, rfl, hw⟩
def wp_X7_valueIn (σ : xS) (a0 : Nat) (l1 : Int32) (l2 : Int32) (Q : Int32 → Prop) : Prop := vp_in l1 100 ∧ (((xh_a σ (a0 + 10) l1.toNatClampNeg) = l2 → vp_in l1 100 ∧ (wb_X7_valueIn_25 Q σ a0 (xh_a σ (a0 + 12) l1.toNatClampNeg))) ∧ (¬ (xh_a σ (a0 + 10) l1.toNatClampNeg) = l2 → vp_in l1 100 ∧ (wb_X7_valueIn_25 Q σ a0 (xh_a σ (a0 + 14) l1.toNatClampNeg))))
set_option maxRecDepth 100000 in
set_option maxHeartbeats 4000000 in
theorem ct_X7_valueIn {σ : xS} {a0 : Nat}  {l1 : Int32} {l2 : Int32} {Q : Int32 → Prop} (hW : xw7 σ a0) (hw : wp_X7_valueIn σ a0 l1 l2 Q) : xCt M_X7_valueIn [.ref a0, .int l1, .int l2] σ (xqI (fun r σ2 => σ = σ2 ∧ Q r )) := by
  refine xCt_ofL (lv := [(0, .ref a0), (1, .int l1), (2, .int l2)]) pn_X7 (Nat.le_of_ble_eq_true rfl) rfl ?_
  unfold wp_X7_valueIn at hw
  refine x_aload_n dX7_valueIn_0 rfl 0 rfl ?_
  refine x_get (ci := 7) (k := 11) (v := .ref (a0 + 10)) dX7_valueIn_1 wF_X7_38 (Nat.le_of_ble_eq_true rfl) (Nat.le_of_ble_eq_true rfl) hW.1 (congrArg va_rf (w7r_10 hW)) ?_
  refine x_iload_n dX7_valueIn_4 rfl 1 rfl ?_
  obtain ⟨hv1, hw⟩ := hw
  refine x_ialdZ dX7_valueIn_5 (w7k_10 hW) (w7z_10 hW) hv1 ?_
  refine x_iload_n dX7_valueIn_6 rfl 2 rfl ?_
  refine x_icmp_ne 19 dX7_valueIn_7 rfl (fun hc2 => ?_) (fun hc2 => ?_)
  · replace hw := hw.2 hc2
    refine x_aload_n dX7_valueIn_19 rfl 0 rfl ?_
    refine x_get (ci := 7) (k := 15) (v := .ref (a0 + 14)) dX7_valueIn_20 wF_X7_50 (Nat.le_of_ble_eq_true rfl) (Nat.le_of_ble_eq_true rfl) hW.1 (congrArg va_rf (w7r_14 hW)) ?_
    refine x_iload_n dX7_valueIn_23 rfl 1 rfl ?_
    obtain ⟨hv3, hw⟩ := hw
    refine x_ialdZ dX7_valueIn_24 (w7k_14 hW) (w7z_14 hW) hv3 ?_
    exact x_sub [0] rfl (xb_X7_valueIn_25 hW hw)
  · replace hw := hw.1 hc2
    refine x_aload_n dX7_valueIn_10 rfl 0 rfl ?_
    refine x_get (ci := 7) (k := 13) (v := .ref (a0 + 12)) dX7_valueIn_11 wF_X7_44 (Nat.le_of_ble_eq_true rfl) (Nat.le_of_ble_eq_true rfl) hW.1 (congrArg va_rf (w7r_12 hW)) ?_
    refine x_iload_n dX7_valueIn_14 rfl 1 rfl ?_
    obtain ⟨hv4, hw⟩ := hw
    refine x_ialdZ dX7_valueIn_15 (w7k_12 hW) (w7z_12 hW) hv4 ?_
    refine x_goto 25 dX7_valueIn_16 rfl ?_
    exact x_sub [0] rfl (xb_X7_valueIn_25 hW hw)
-- PromiseWireModel.when(III)I
def wb_X7_when_142 (Q : Int32 → xS → Prop) (σ : xS) (a0 : Nat) : Prop := Q (xh_I σ 473 a0) σ
set_option maxRecDepth 100000 in
set_option maxHeartbeats 4000000 in
theorem xb_X7_when_142 {Q : Int32 → xS → Prop} {σ : xS} {a0 : Nat}  (hW : xw7 σ a0)  (hw : wb_X7_when_142 Q σ a0) : xX M_X7_when 142 [(0, .ref a0)] [] σ (xqI (fun r σ2 => xw7 σ2 a0 ∧ Q r σ2)) := by
  unfold wb_X7_when_142 at hw
  refine x_aload_n dX7_when_142 rfl 0 rfl ?_
  refine x_get (ci := 7) (k := 25) (v := .int (xh_I σ 473 a0)) dX7_when_143 wF_X7_158 (Nat.le_of_ble_eq_true rfl) (Nat.le_of_ble_eq_true rfl) hW.1 rfl ?_
  exact x_iret dX7_when_146 rfl ⟨(xh_I σ 473 a0), rfl, hW, hw⟩
def wb_X7_when_35 (Q : Int32 → xS → Prop) (σ : xS) (a0 : Nat) : Prop := Q (-1) σ
set_option maxRecDepth 100000 in
set_option maxHeartbeats 4000000 in
theorem xb_X7_when_35 {Q : Int32 → xS → Prop} {σ : xS} {a0 : Nat}  (hW : xw7 σ a0)  (hw : wb_X7_when_35 Q σ a0) : xX M_X7_when 35 [(0, .ref a0)] [] σ (xqI (fun r σ2 => xw7 σ2 a0 ∧ Q r σ2)) := by
  unfold wb_X7_when_35 at hw
  refine x_iconst dX7_when_35 cI_m1 ?_
  exact x_iret dX7_when_36 rfl ⟨(-1), rfl, hW, hw⟩
def wp_X7_when (σ : xS) (a0 : Nat) (l1 : Int32) (l2 : Int32) (l3 : Int32) (Q : Int32 → xS → Prop) : Prop := wp_X7_in σ l1 0 3 (fun x1 => (x1 = 0 → wb_X7_when_35 Q σ a0) ∧ (¬ x1 = 0 → wp_X7_isPromise σ a0 l2 (fun x4 => (x4 = 0 → wb_X7_when_35 Q σ a0) ∧ (¬ x4 = 0 → wp_X7_isThing σ a0 l3 (fun x7 => (x7 = 0 → wb_X7_when_35 Q σ a0) ∧ (¬ x7 = 0 → vp_in l3 40 ∧ (((xh_a σ (a0 + 1) l3.toNatClampNeg) = l1 → wp_X7_isOf σ a0 l2 l1 (fun x12 => (x12 = 0 → Q (-2) σ) ∧ (¬ x12 = 0 → ((xh_I σ 473 a0) = 40 → Q (-3) σ) ∧ (¬ (xh_I σ 473 a0) = 40 → vp_in (xh_I σ 473 a0) 40 ∧ ∀ σ17, σ17 = xs_a σ (a0 + 23) (xh_I σ 473 a0).toNatClampNeg l2 → (vp_in (xh_I σ17 473 a0) 40 ∧ ∀ σ19, σ19 = xs_a σ17 (a0 + 24) (xh_I σ17 473 a0).toNatClampNeg l1 → (vp_in (xh_I σ19 473 a0) 40 ∧ ∀ σ21, σ21 = xs_a σ19 (a0 + 25) (xh_I σ19 473 a0).toNatClampNeg l3 → (vp_in (xh_I σ21 473 a0) 40 ∧ ∀ σ23, σ23 = xs_a σ21 (a0 + 26) (xh_I σ21 473 a0).toNatClampNeg 0 → (∀ σ24, σ24 = xs_I σ23 473 a0 ((xh_I σ23 473 a0) + 1) → (wp_X7_stateIn σ24 a0 l2 l1 (fun x25 => (x25 = 0 → wb_X7_when_142 Q σ24 a0) ∧ (¬ x25 = 0 → wp_X7_stateIn σ24 a0 l2 l1 (fun x28 => wp_X7_valueIn σ24 a0 l2 l1 (fun x30 => wp_X7_postsWhen σ24 a0 ((xh_I σ24 473 a0) - 1) x28 x30 (fun σ32 => wb_X7_when_142 Q σ32 a0)))))))))))))) ∧ (¬ (xh_a σ (a0 + 1) l3.toNatClampNeg) = l1 → wb_X7_when_35 Q σ a0))))))))
set_option maxRecDepth 100000 in
set_option maxHeartbeats 4000000 in
theorem ct_X7_when {σ : xS} {a0 : Nat}  {l1 : Int32} {l2 : Int32} {l3 : Int32} {Q : Int32 → xS → Prop} (hW : xw7 σ a0) (hw : wp_X7_when σ a0 l1 l2 l3 Q) : xCt M_X7_when [.ref a0, .int l1, .int l2, .int l3] σ (xqI (fun r σ2 => xw7 σ2 a0 ∧ Q r σ2)) := by
  refine xCt_ofL (lv := [(0, .ref a0), (1, .int l1), (2, .int l2), (3, .int l3)]) pn_X7 (Nat.le_of_ble_eq_true rfl) rfl ?_
  unfold wp_X7_when at hw
  refine x_iload_n dX7_when_0 rfl 1 rfl ?_
  refine x_iconst dX7_when_1 cI_0 ?_
  refine x_iconst dX7_when_2 cI_3 ?_
  refine x_callS (M2 := M_X7_in) (As := [.int l1, .int 0, .int 3]) (st := []) wM_X7_132 wZ_X7_in dX7_when_3 rfl ok_X7_in ⟨(Nat.le_of_ble_eq_true rfl), (Nat.le_of_ble_eq_true rfl)⟩ (Nat.le_of_ble_eq_true rfl) (ct_X7_in hw) (xqI.k (fun x1 τ2 hw2 => ?_))
  obtain ⟨he, hw⟩ := hw2
  subst he
  refine x_if_eq 35 dX7_when_6 rfl (fun hc3 => ?_) (fun hc3 => ?_)
  · replace hw := hw.1 hc3
    exact x_sub [0] rfl (xb_X7_when_35 hW hw)
  · replace hw := hw.2 hc3
    refine x_aload_n dX7_when_9 rfl 0 rfl ?_
    refine x_iload_n dX7_when_10 rfl 2 rfl ?_
    refine x_callV (M2 := M_X7_isPromise) (As := [.int l2]) (st := []) (ci := 7) (Nat.le_of_ble_eq_true rfl) hW.1 rfl wM_X7_280 wI_X7_isPromise wS_X7_isPromise dX7_when_11 rfl ok_X7_isPromise ⟨(Nat.le_of_ble_eq_true rfl), (Nat.le_of_ble_eq_true rfl)⟩ (Nat.le_of_ble_eq_true rfl) (ct_X7_isPromise hW hw) (xqI.k (fun x4 τ5 hw2 => ?_))
    obtain ⟨he, hw⟩ := hw2
    subst he
    refine x_if_eq 35 dX7_when_14 rfl (fun hc6 => ?_) (fun hc6 => ?_)
    · replace hw := hw.1 hc6
      exact x_sub [0] rfl (xb_X7_when_35 hW hw)
    · replace hw := hw.2 hc6
      refine x_aload_n dX7_when_17 rfl 0 rfl ?_
      refine x_iload_n dX7_when_18 rfl 3 rfl ?_
      refine x_callV (M2 := M_X7_isThing) (As := [.int l3]) (st := []) (ci := 7) (Nat.le_of_ble_eq_true rfl) hW.1 rfl wM_X7_143 wI_X7_isThing wS_X7_isThing dX7_when_19 rfl ok_X7_isThing ⟨(Nat.le_of_ble_eq_true rfl), (Nat.le_of_ble_eq_true rfl)⟩ (Nat.le_of_ble_eq_true rfl) (ct_X7_isThing hW hw) (xqI.k (fun x7 τ8 hw2 => ?_))
      obtain ⟨he, hw⟩ := hw2
      subst he
      refine x_if_eq 35 dX7_when_22 rfl (fun hc9 => ?_) (fun hc9 => ?_)
      · replace hw := hw.1 hc9
        exact x_sub [0] rfl (xb_X7_when_35 hW hw)
      · replace hw := hw.2 hc9
        refine x_aload_n dX7_when_25 rfl 0 rfl ?_
        refine x_get (ci := 7) (k := 1) (v := .ref (a0 + 1)) dX7_when_26 wF_X7_7 (Nat.le_of_ble_eq_true rfl) (Nat.le_of_ble_eq_true rfl) hW.1 (congrArg va_rf (w7r_1 hW)) ?_
        refine x_iload_n dX7_when_29 rfl 3 rfl ?_
        obtain ⟨hv10, hw⟩ := hw
        refine x_ialdZ dX7_when_30 (w7k_1 hW) (w7z_1 hW) hv10 ?_
        refine x_iload_n dX7_when_31 rfl 1 rfl ?_
        refine x_icmp_eq 37 dX7_when_32 rfl (fun hc11 => ?_) (fun hc11 => ?_)
        · replace hw := hw.1 hc11
          refine x_aload_n dX7_when_37 rfl 0 rfl ?_
          refine x_iload_n dX7_when_38 rfl 2 rfl ?_
          refine x_iload_n dX7_when_39 rfl 1 rfl ?_
          refine x_callV (M2 := M_X7_isOf) (As := [.int l2, .int l1]) (st := []) (ci := 7) (Nat.le_of_ble_eq_true rfl) hW.1 rfl wM_X7_283 wI_X7_isOf wS_X7_isOf dX7_when_40 rfl ok_X7_isOf ⟨(Nat.le_of_ble_eq_true rfl), (Nat.le_of_ble_eq_true rfl)⟩ (Nat.le_of_ble_eq_true rfl) (ct_X7_isOf hW hw) (xqI.k (fun x12 τ13 hw2 => ?_))
          obtain ⟨he, hw⟩ := hw2
          subst he
          refine x_if_ne 49 dX7_when_43 rfl (fun hc14 => ?_) (fun hc14 => ?_)
          · replace hw := hw.2 hc14
            refine x_aload_n dX7_when_49 rfl 0 rfl ?_
            refine x_get (ci := 7) (k := 25) (v := .int (xh_I σ 473 a0)) dX7_when_50 wF_X7_158 (Nat.le_of_ble_eq_true rfl) (Nat.le_of_ble_eq_true rfl) hW.1 rfl ?_
            refine x_bipush dX7_when_53 cB_40 ?_
            refine x_icmp_ne 61 dX7_when_55 rfl (fun hc15 => ?_) (fun hc15 => ?_)
            · replace hw := hw.2 hc15
              refine x_aload_n dX7_when_61 rfl 0 rfl ?_
              refine x_get (ci := 7) (k := 26) (v := .ref (a0 + 23)) dX7_when_62 wF_X7_77 (Nat.le_of_ble_eq_true rfl) (Nat.le_of_ble_eq_true rfl) hW.1 (congrArg va_rf (w7r_23 hW)) ?_
              refine x_aload_n dX7_when_65 rfl 0 rfl ?_
              refine x_get (ci := 7) (k := 25) (v := .int (xh_I σ 473 a0)) dX7_when_66 wF_X7_158 (Nat.le_of_ble_eq_true rfl) (Nat.le_of_ble_eq_true rfl) hW.1 rfl ?_
              refine x_iload_n dX7_when_69 rfl 2 rfl ?_
              obtain ⟨hv16, hw⟩ := hw
              refine x_iastN dX7_when_70 (w7k_23 hW) (w7z_23 hW) hv16 (fun σ17 hσ17 => ?_)
              replace hw := hw σ17 hσ17
              refine x_aload_n dX7_when_71 rfl 0 rfl ?_
              have hW := (xw7_a hσ17 hW)
              refine x_get (ci := 7) (k := 27) (v := .ref (a0 + 24)) dX7_when_72 wF_X7_80 (Nat.le_of_ble_eq_true rfl) (Nat.le_of_ble_eq_true rfl) hW.1 (congrArg va_rf (w7r_24 hW)) ?_
              refine x_aload_n dX7_when_75 rfl 0 rfl ?_
              refine x_get (ci := 7) (k := 25) (v := .int (xh_I σ17 473 a0)) dX7_when_76 wF_X7_158 (Nat.le_of_ble_eq_true rfl) (Nat.le_of_ble_eq_true rfl) hW.1 rfl ?_
              refine x_iload_n dX7_when_79 rfl 1 rfl ?_
              obtain ⟨hv18, hw⟩ := hw
              refine x_iastN dX7_when_80 (w7k_24 hW) (w7z_24 hW) hv18 (fun σ19 hσ19 => ?_)
              replace hw := hw σ19 hσ19
              refine x_aload_n dX7_when_81 rfl 0 rfl ?_
              have hW := (xw7_a hσ19 hW)
              refine x_get (ci := 7) (k := 28) (v := .ref (a0 + 25)) dX7_when_82 wF_X7_83 (Nat.le_of_ble_eq_true rfl) (Nat.le_of_ble_eq_true rfl) hW.1 (congrArg va_rf (w7r_25 hW)) ?_
              refine x_aload_n dX7_when_85 rfl 0 rfl ?_
              refine x_get (ci := 7) (k := 25) (v := .int (xh_I σ19 473 a0)) dX7_when_86 wF_X7_158 (Nat.le_of_ble_eq_true rfl) (Nat.le_of_ble_eq_true rfl) hW.1 rfl ?_
              refine x_iload_n dX7_when_89 rfl 3 rfl ?_
              obtain ⟨hv20, hw⟩ := hw
              refine x_iastN dX7_when_90 (w7k_25 hW) (w7z_25 hW) hv20 (fun σ21 hσ21 => ?_)
              replace hw := hw σ21 hσ21
              refine x_aload_n dX7_when_91 rfl 0 rfl ?_
              have hW := (xw7_a hσ21 hW)
              refine x_get (ci := 7) (k := 29) (v := .ref (a0 + 26)) dX7_when_92 wF_X7_86 (Nat.le_of_ble_eq_true rfl) (Nat.le_of_ble_eq_true rfl) hW.1 (congrArg va_rf (w7r_26 hW)) ?_
              refine x_aload_n dX7_when_95 rfl 0 rfl ?_
              refine x_get (ci := 7) (k := 25) (v := .int (xh_I σ21 473 a0)) dX7_when_96 wF_X7_158 (Nat.le_of_ble_eq_true rfl) (Nat.le_of_ble_eq_true rfl) hW.1 rfl ?_
              refine x_iconst dX7_when_99 cI_0 ?_
              obtain ⟨hv22, hw⟩ := hw
              refine x_zastN dX7_when_100 (w7k_26 hW) (w7z_26 hW) hv22 (Or.inl rfl) (fun σ23 hσ23 => ?_)
              replace hw := hw σ23 hσ23
              refine x_aload_n dX7_when_101 rfl 0 rfl ?_
              refine x_dup dX7_when_102 rfl ?_
              have hW := (xw7_a hσ23 hW)
              refine x_get (ci := 7) (k := 25) (v := .int (xh_I σ23 473 a0)) dX7_when_103 wF_X7_158 (Nat.le_of_ble_eq_true rfl) (Nat.le_of_ble_eq_true rfl) hW.1 rfl ?_
              refine x_iconst dX7_when_106 cI_1 ?_
              refine x_iadd dX7_when_107 ?_
              refine x_putIN (ci := 7) (k := 25) (f := 473) dX7_when_108 wF_X7_158 (Nat.le_of_ble_eq_true rfl) (Nat.le_of_ble_eq_true rfl) hW.1 (Or.inl rfl) rfl (Or.inl rfl) (fun σ24 hσ24 => ?_)
              replace hw := hw σ24 hσ24
              refine x_aload_n dX7_when_111 rfl 0 rfl ?_
              refine x_iload_n dX7_when_112 rfl 2 rfl ?_
              refine x_iload_n dX7_when_113 rfl 1 rfl ?_
              have hW := (xw7_I hσ24 hW)
              refine x_callV (M2 := M_X7_stateIn) (As := [.int l2, .int l1]) (st := []) (ci := 7) (Nat.le_of_ble_eq_true rfl) hW.1 rfl wM_X7_287 wI_X7_stateIn wS_X7_stateIn dX7_when_114 rfl ok_X7_stateIn ⟨(Nat.le_of_ble_eq_true rfl), (Nat.le_of_ble_eq_true rfl)⟩ (Nat.le_of_ble_eq_true rfl) (ct_X7_stateIn hW hw) (xqI.k (fun x25 τ26 hw2 => ?_))
              obtain ⟨he, hw⟩ := hw2
              subst he
              refine x_if_eq 142 dX7_when_117 rfl (fun hc27 => ?_) (fun hc27 => ?_)
              · replace hw := hw.1 hc27
                exact x_sub [0] rfl (xb_X7_when_142 hW hw)
              · replace hw := hw.2 hc27
                refine x_aload_n dX7_when_120 rfl 0 rfl ?_
                refine x_aload_n dX7_when_121 rfl 0 rfl ?_
                refine x_get (ci := 7) (k := 25) (v := .int (xh_I σ24 473 a0)) dX7_when_122 wF_X7_158 (Nat.le_of_ble_eq_true rfl) (Nat.le_of_ble_eq_true rfl) hW.1 rfl ?_
                refine x_iconst dX7_when_125 cI_1 ?_
                refine x_isub dX7_when_126 ?_
                refine x_aload_n dX7_when_127 rfl 0 rfl ?_
                refine x_iload_n dX7_when_128 rfl 2 rfl ?_
                refine x_iload_n dX7_when_129 rfl 1 rfl ?_
                refine x_callV (M2 := M_X7_stateIn) (As := [.int l2, .int l1]) (st := [.int ((xh_I σ24 473 a0) - 1), .ref a0]) (ci := 7) (Nat.le_of_ble_eq_true rfl) hW.1 rfl wM_X7_287 wI_X7_stateIn wS_X7_stateIn dX7_when_130 rfl ok_X7_stateIn ⟨(Nat.le_of_ble_eq_true rfl), (Nat.le_of_ble_eq_true rfl)⟩ (Nat.le_of_ble_eq_true rfl) (ct_X7_stateIn hW hw) (xqI.k (fun x28 τ29 hw2 => ?_))
                obtain ⟨he, hw⟩ := hw2
                subst he
                refine x_aload_n dX7_when_133 rfl 0 rfl ?_
                refine x_iload_n dX7_when_134 rfl 2 rfl ?_
                refine x_iload_n dX7_when_135 rfl 1 rfl ?_
                refine x_callV (M2 := M_X7_valueIn) (As := [.int l2, .int l1]) (st := [.int x28, .int ((xh_I σ24 473 a0) - 1), .ref a0]) (ci := 7) (Nat.le_of_ble_eq_true rfl) hW.1 rfl wM_X7_290 wI_X7_valueIn wS_X7_valueIn dX7_when_136 rfl ok_X7_valueIn ⟨(Nat.le_of_ble_eq_true rfl), (Nat.le_of_ble_eq_true rfl)⟩ (Nat.le_of_ble_eq_true rfl) (ct_X7_valueIn hW hw) (xqI.k (fun x30 τ31 hw2 => ?_))
                obtain ⟨he, hw⟩ := hw2
                subst he
                refine x_callV (M2 := M_X7_postsWhen) (As := [.int ((xh_I σ24 473 a0) - 1), .int x28, .int x30]) (st := []) (ci := 7) (Nat.le_of_ble_eq_true rfl) hW.1 rfl wM_X7_161 wI_X7_postsWhen wS_X7_postsWhen dX7_when_139 rfl ok_X7_postsWhen ⟨(Nat.le_of_ble_eq_true rfl), (Nat.le_of_ble_eq_true rfl)⟩ (Nat.le_of_ble_eq_true rfl) (ct_X7_postsWhen hW hw) (xqV.k (fun σ32 hw2 => ?_))
                obtain ⟨hW, hw⟩ := hw2
                exact x_sub [0] rfl (xb_X7_when_142 hW hw)
            · replace hw := hw.1 hc15
              refine x_bipush dX7_when_58 cB_m3 ?_
              exact x_iret dX7_when_60 rfl ⟨(-3), rfl, hW, hw⟩
          · replace hw := hw.1 hc14
            refine x_bipush dX7_when_46 cB_m2 ?_
            exact x_iret dX7_when_48 rfl ⟨(-2), rfl, hW, hw⟩
        · replace hw := hw.2 hc11
          exact x_sub [0] rfl (xb_X7_when_35 hW hw)
-- PromiseWireModel.state(III)I
def wb_X7_state_59 (Q : Int32 → Prop) (σ : xS) (a0 : Nat) (s0 : Int32) : Prop := Q s0
set_option maxRecDepth 100000 in
set_option maxHeartbeats 4000000 in
theorem xb_X7_state_59 {Q : Int32 → Prop} {σ : xS} {a0 : Nat}  {s0 : Int32} (hW : xw7 σ a0)  (hw : wb_X7_state_59 Q σ a0 s0) : xX M_X7_state 59 [(0, .ref a0)] [.int s0] σ (xqI (fun r σ2 => σ = σ2 ∧ Q r )) := by
  unfold wb_X7_state_59 at hw
  exact x_iret dX7_state_59 rfl ⟨s0, rfl, rfl, hw⟩
def wb_X7_state_26 (Q : Int32 → Prop) (σ : xS) (a0 : Nat) : Prop := Q (-1)
set_option maxRecDepth 100000 in
set_option maxHeartbeats 4000000 in
theorem xb_X7_state_26 {Q : Int32 → Prop} {σ : xS} {a0 : Nat}  (hW : xw7 σ a0)  (hw : wb_X7_state_26 Q σ a0) : xX M_X7_state 26 [(0, .ref a0)] [] σ (xqI (fun r σ2 => σ = σ2 ∧ Q r )) := by
  unfold wb_X7_state_26 at hw
  refine x_iconst dX7_state_26 cI_m1 ?_
  exact x_iret dX7_state_27 rfl ⟨(-1), rfl, rfl, hw⟩
def wp_X7_state (σ : xS) (a0 : Nat) (l1 : Int32) (l2 : Int32) (l3 : Int32) (Q : Int32 → Prop) : Prop := wp_X7_isPromise σ a0 l1 (fun x1 => (x1 = 0 → wb_X7_state_26 Q σ a0) ∧ (¬ x1 = 0 → wp_X7_in σ l2 0 3 (fun x4 => (x4 = 0 → wb_X7_state_26 Q σ a0) ∧ (¬ x4 = 0 → wp_X7_in σ l3 0 1 (fun x7 => (x7 = 0 → wb_X7_state_26 Q σ a0) ∧ (¬ x7 = 0 → wp_X7_isOf σ a0 l1 l2 (fun x10 => (x10 = 0 → Q (-2)) ∧ (¬ x10 = 0 → (l3 = 0 → wp_X7_stateIn σ a0 l1 l2 (fun x16 => wb_X7_state_59 Q σ a0 x16)) ∧ (¬ l3 = 0 → wp_X7_valueIn σ a0 l1 l2 (fun x14 => wb_X7_state_59 Q σ a0 x14))))))))))
set_option maxRecDepth 100000 in
set_option maxHeartbeats 4000000 in
theorem ct_X7_state {σ : xS} {a0 : Nat}  {l1 : Int32} {l2 : Int32} {l3 : Int32} {Q : Int32 → Prop} (hW : xw7 σ a0) (hw : wp_X7_state σ a0 l1 l2 l3 Q) : xCt M_X7_state [.ref a0, .int l1, .int l2, .int l3] σ (xqI (fun r σ2 => σ = σ2 ∧ Q r )) := by
  refine xCt_ofL (lv := [(0, .ref a0), (1, .int l1), (2, .int l2), (3, .int l3)]) pn_X7 (Nat.le_of_ble_eq_true rfl) rfl ?_
  unfold wp_X7_state at hw
  refine x_aload_n dX7_state_0 rfl 0 rfl ?_
  refine x_iload_n dX7_state_1 rfl 1 rfl ?_
  refine x_callV (M2 := M_X7_isPromise) (As := [.int l1]) (st := []) (ci := 7) (Nat.le_of_ble_eq_true rfl) hW.1 rfl wM_X7_280 wI_X7_isPromise wS_X7_isPromise dX7_state_2 rfl ok_X7_isPromise ⟨(Nat.le_of_ble_eq_true rfl), (Nat.le_of_ble_eq_true rfl)⟩ (Nat.le_of_ble_eq_true rfl) (ct_X7_isPromise hW hw) (xqI.k (fun x1 τ2 hw2 => ?_))
  obtain ⟨he, hw⟩ := hw2
  subst he
  refine x_if_eq 26 dX7_state_5 rfl (fun hc3 => ?_) (fun hc3 => ?_)
  · replace hw := hw.1 hc3
    exact x_sub [0] rfl (xb_X7_state_26 hW hw)
  · replace hw := hw.2 hc3
    refine x_iload_n dX7_state_8 rfl 2 rfl ?_
    refine x_iconst dX7_state_9 cI_0 ?_
    refine x_iconst dX7_state_10 cI_3 ?_
    refine x_callS (M2 := M_X7_in) (As := [.int l2, .int 0, .int 3]) (st := []) wM_X7_132 wZ_X7_in dX7_state_11 rfl ok_X7_in ⟨(Nat.le_of_ble_eq_true rfl), (Nat.le_of_ble_eq_true rfl)⟩ (Nat.le_of_ble_eq_true rfl) (ct_X7_in hw) (xqI.k (fun x4 τ5 hw2 => ?_))
    obtain ⟨he, hw⟩ := hw2
    subst he
    refine x_if_eq 26 dX7_state_14 rfl (fun hc6 => ?_) (fun hc6 => ?_)
    · replace hw := hw.1 hc6
      exact x_sub [0] rfl (xb_X7_state_26 hW hw)
    · replace hw := hw.2 hc6
      refine x_iload_n dX7_state_17 rfl 3 rfl ?_
      refine x_iconst dX7_state_18 cI_0 ?_
      refine x_iconst dX7_state_19 cI_1 ?_
      refine x_callS (M2 := M_X7_in) (As := [.int l3, .int 0, .int 1]) (st := []) wM_X7_132 wZ_X7_in dX7_state_20 rfl ok_X7_in ⟨(Nat.le_of_ble_eq_true rfl), (Nat.le_of_ble_eq_true rfl)⟩ (Nat.le_of_ble_eq_true rfl) (ct_X7_in hw) (xqI.k (fun x7 τ8 hw2 => ?_))
      obtain ⟨he, hw⟩ := hw2
      subst he
      refine x_if_ne 28 dX7_state_23 rfl (fun hc9 => ?_) (fun hc9 => ?_)
      · replace hw := hw.2 hc9
        refine x_aload_n dX7_state_28 rfl 0 rfl ?_
        refine x_iload_n dX7_state_29 rfl 1 rfl ?_
        refine x_iload_n dX7_state_30 rfl 2 rfl ?_
        refine x_callV (M2 := M_X7_isOf) (As := [.int l1, .int l2]) (st := []) (ci := 7) (Nat.le_of_ble_eq_true rfl) hW.1 rfl wM_X7_283 wI_X7_isOf wS_X7_isOf dX7_state_31 rfl ok_X7_isOf ⟨(Nat.le_of_ble_eq_true rfl), (Nat.le_of_ble_eq_true rfl)⟩ (Nat.le_of_ble_eq_true rfl) (ct_X7_isOf hW hw) (xqI.k (fun x10 τ11 hw2 => ?_))
        obtain ⟨he, hw⟩ := hw2
        subst he
        refine x_if_ne 40 dX7_state_34 rfl (fun hc12 => ?_) (fun hc12 => ?_)
        · replace hw := hw.2 hc12
          refine x_iload_n dX7_state_40 rfl 3 rfl ?_
          refine x_if_ne 53 dX7_state_41 rfl (fun hc13 => ?_) (fun hc13 => ?_)
          · replace hw := hw.2 hc13
            refine x_aload_n dX7_state_53 rfl 0 rfl ?_
            refine x_iload_n dX7_state_54 rfl 1 rfl ?_
            refine x_iload_n dX7_state_55 rfl 2 rfl ?_
            refine x_callV (M2 := M_X7_valueIn) (As := [.int l1, .int l2]) (st := []) (ci := 7) (Nat.le_of_ble_eq_true rfl) hW.1 rfl wM_X7_290 wI_X7_valueIn wS_X7_valueIn dX7_state_56 rfl ok_X7_valueIn ⟨(Nat.le_of_ble_eq_true rfl), (Nat.le_of_ble_eq_true rfl)⟩ (Nat.le_of_ble_eq_true rfl) (ct_X7_valueIn hW hw) (xqI.k (fun x14 τ15 hw2 => ?_))
            obtain ⟨he, hw⟩ := hw2
            subst he
            exact x_sub [0] rfl (xb_X7_state_59 hW hw)
          · replace hw := hw.1 hc13
            refine x_aload_n dX7_state_44 rfl 0 rfl ?_
            refine x_iload_n dX7_state_45 rfl 1 rfl ?_
            refine x_iload_n dX7_state_46 rfl 2 rfl ?_
            refine x_callV (M2 := M_X7_stateIn) (As := [.int l1, .int l2]) (st := []) (ci := 7) (Nat.le_of_ble_eq_true rfl) hW.1 rfl wM_X7_287 wI_X7_stateIn wS_X7_stateIn dX7_state_47 rfl ok_X7_stateIn ⟨(Nat.le_of_ble_eq_true rfl), (Nat.le_of_ble_eq_true rfl)⟩ (Nat.le_of_ble_eq_true rfl) (ct_X7_stateIn hW hw) (xqI.k (fun x16 τ17 hw2 => ?_))
            obtain ⟨he, hw⟩ := hw2
            subst he
            refine x_goto 59 dX7_state_50 rfl ?_
            exact x_sub [0] rfl (xb_X7_state_59 hW hw)
        · replace hw := hw.1 hc12
          refine x_bipush dX7_state_37 cB_m2 ?_
          exact x_iret dX7_state_39 rfl ⟨(-2), rfl, rfl, hw⟩
      · replace hw := hw.1 hc9
        exact x_sub [0] rfl (xb_X7_state_26 hW hw)
-- PromiseWireModel.waitsFor(I)I
def wb_X7_waitsFor_38 (Q : Int32 → Prop) (K4 : Int32 → Int32 → Int32 → Prop) (σ : xS) (a0 : Nat) (l1 : Int32) (l3 : Int32) (s0 : Int32) (s1 : Int32) : Prop := K4 l1 (s0 + s1) (l3 + 1)
set_option maxRecDepth 100000 in
set_option maxHeartbeats 4000000 in
theorem xb_X7_waitsFor_38 {Q : Int32 → Prop} {K4 : Int32 → Int32 → Int32 → Prop} {σ : xS} {a0 : Nat}  {l1 : Int32} {l3 : Int32} {s0 : Int32} {s1 : Int32} (hW : xw7 σ a0)  (hK4 : ∀ (l1 : Int32) (l2 : Int32) (l3 : Int32), K4 l1 l2 l3 → xX M_X7_waitsFor 4 [(0, .ref a0), (1, .int l1), (2, .int l2), (3, .int l3)] [] σ (xqI (fun r σ2 => σ = σ2 ∧ Q r ))) (hw : wb_X7_waitsFor_38 Q K4 σ a0 l1 l3 s0 s1) : xX M_X7_waitsFor 38 [(0, .ref a0), (1, .int l1), (3, .int l3)] [.int s1, .int s0] σ (xqI (fun r σ2 => σ = σ2 ∧ Q r )) := by
  unfold wb_X7_waitsFor_38 at hw
  refine x_iadd dX7_waitsFor_38 ?_
  refine x_istore_n [(2, .int (s0 + s1)), (0, .ref a0), (1, .int l1), (3, .int l3)] dX7_waitsFor_39 rfl (Nat.le_of_ble_eq_true rfl) rfl ?_
  refine x_iinc [(3, .int (l3 + 1)), (2, .int (s0 + s1)), (0, .ref a0), (1, .int l1)] dX7_waitsFor_40 3 rfl (congrArg _ cI_1) (Nat.le_of_ble_eq_true rfl) rfl ?_
  refine x_goto 4 dX7_waitsFor_43 rfl ?_
  exact x_sub [2, 3, 1, 0] rfl (hK4 _ _ _ hw)
def wb_X7_waitsFor_37 (Q : Int32 → Prop) (K4 : Int32 → Int32 → Int32 → Prop) (σ : xS) (a0 : Nat) (l1 : Int32) (l3 : Int32) (s0 : Int32) : Prop := wb_X7_waitsFor_38 Q K4 σ a0 l1 l3 s0 0
set_option maxRecDepth 100000 in
set_option maxHeartbeats 4000000 in
theorem xb_X7_waitsFor_37 {Q : Int32 → Prop} {K4 : Int32 → Int32 → Int32 → Prop} {σ : xS} {a0 : Nat}  {l1 : Int32} {l3 : Int32} {s0 : Int32} (hW : xw7 σ a0)  (hK4 : ∀ (l1 : Int32) (l2 : Int32) (l3 : Int32), K4 l1 l2 l3 → xX M_X7_waitsFor 4 [(0, .ref a0), (1, .int l1), (2, .int l2), (3, .int l3)] [] σ (xqI (fun r σ2 => σ = σ2 ∧ Q r ))) (hw : wb_X7_waitsFor_37 Q K4 σ a0 l1 l3 s0) : xX M_X7_waitsFor 37 [(0, .ref a0), (1, .int l1), (3, .int l3)] [.int s0] σ (xqI (fun r σ2 => σ = σ2 ∧ Q r )) := by
  unfold wb_X7_waitsFor_37 at hw
  refine x_iconst dX7_waitsFor_37 cI_0 ?_
  exact x_sub [0, 1, 2] rfl (xb_X7_waitsFor_38 hW hK4 hw)
def wb_X7_waitsFor_4 (Q : Int32 → Prop) (σ : xS) (a0 : Nat) : Nat → Int32 → Int32 → Int32 → Prop
  | 0, _, _, _ => False
  | n + 1, l1, l2, l3 => ((xh_I σ 457 a0) ≤ l3 → Q l2) ∧ (¬ (xh_I σ 457 a0) ≤ l3 → vp_in l3 100 ∧ (((xh_a σ (a0 + 16) l3.toNatClampNeg) = 2 → vp_in l3 100 ∧ (((xh_a σ (a0 + 21) l3.toNatClampNeg) = l1 → wb_X7_waitsFor_38 Q (fun l1 l2 l3 => wb_X7_waitsFor_4 Q σ a0 n l1 l2 l3) σ a0 l1 l3 l2 1) ∧ (¬ (xh_a σ (a0 + 21) l3.toNatClampNeg) = l1 → wb_X7_waitsFor_37 Q (fun l1 l2 l3 => wb_X7_waitsFor_4 Q σ a0 n l1 l2 l3) σ a0 l1 l3 l2))) ∧ (¬ (xh_a σ (a0 + 16) l3.toNatClampNeg) = 2 → wb_X7_waitsFor_37 Q (fun l1 l2 l3 => wb_X7_waitsFor_4 Q σ a0 n l1 l2 l3) σ a0 l1 l3 l2)))
set_option maxRecDepth 100000 in
set_option maxHeartbeats 4000000 in
theorem xl_X7_waitsFor_4 {Q : Int32 → Prop} {σ : xS} {a0 : Nat}  (hW : xw7 σ a0)  : ∀ (n : Nat) (l1 : Int32) (l2 : Int32) (l3 : Int32), wb_X7_waitsFor_4 Q σ a0 n l1 l2 l3 → xX M_X7_waitsFor 4 [(0, .ref a0), (1, .int l1), (2, .int l2), (3, .int l3)] [] σ (xqI (fun r σ2 => σ = σ2 ∧ Q r )) := by
  intro n
  induction n with
  | zero => intro l1 l2 l3 hw; exact False.elim hw
  | succ n ih =>
    intro l1 l2 l3 hw
    unfold wb_X7_waitsFor_4 at hw
    refine x_iload_n dX7_waitsFor_4 rfl 3 rfl ?_
    refine x_aload_n dX7_waitsFor_5 rfl 0 rfl ?_
    refine x_get (ci := 7) (k := 9) (v := .int (xh_I σ 457 a0)) dX7_waitsFor_6 wF_X7_136 (Nat.le_of_ble_eq_true rfl) (Nat.le_of_ble_eq_true rfl) hW.1 rfl ?_
    refine x_icmp_ge 46 dX7_waitsFor_9 rfl (fun hc1 => ?_) (fun hc1 => ?_)
    · replace hw := hw.1 hc1
      refine x_iload_n dX7_waitsFor_46 rfl 2 rfl ?_
      exact x_iret dX7_waitsFor_47 rfl ⟨l2, rfl, rfl, hw⟩
    · replace hw := hw.2 hc1
      refine x_iload_n dX7_waitsFor_12 rfl 2 rfl ?_
      refine x_aload_n dX7_waitsFor_13 rfl 0 rfl ?_
      refine x_get (ci := 7) (k := 17) (v := .ref (a0 + 16)) dX7_waitsFor_14 wF_X7_56 (Nat.le_of_ble_eq_true rfl) (Nat.le_of_ble_eq_true rfl) hW.1 (congrArg va_rf (w7r_16 hW)) ?_
      refine x_iload_n dX7_waitsFor_17 rfl 3 rfl ?_
      obtain ⟨hv2, hw⟩ := hw
      refine x_ialdZ dX7_waitsFor_18 (w7k_16 hW) (w7z_16 hW) hv2 ?_
      refine x_iconst dX7_waitsFor_19 cI_2 ?_
      refine x_icmp_ne 37 dX7_waitsFor_20 rfl (fun hc3 => ?_) (fun hc3 => ?_)
      · replace hw := hw.2 hc3
        exact x_sub [0, 1, 3] rfl (xb_X7_waitsFor_37 hW ih hw)
      · replace hw := hw.1 hc3
        refine x_aload_n dX7_waitsFor_23 rfl 0 rfl ?_
        refine x_get (ci := 7) (k := 22) (v := .ref (a0 + 21)) dX7_waitsFor_24 wF_X7_71 (Nat.le_of_ble_eq_true rfl) (Nat.le_of_ble_eq_true rfl) hW.1 (congrArg va_rf (w7r_21 hW)) ?_
        refine x_iload_n dX7_waitsFor_27 rfl 3 rfl ?_
        obtain ⟨hv4, hw⟩ := hw
        refine x_ialdZ dX7_waitsFor_28 (w7k_21 hW) (w7z_21 hW) hv4 ?_
        refine x_iload_n dX7_waitsFor_29 rfl 1 rfl ?_
        refine x_icmp_ne 37 dX7_waitsFor_30 rfl (fun hc5 => ?_) (fun hc5 => ?_)
        · replace hw := hw.2 hc5
          exact x_sub [0, 1, 3] rfl (xb_X7_waitsFor_37 hW ih hw)
        · replace hw := hw.1 hc5
          refine x_iconst dX7_waitsFor_33 cI_1 ?_
          refine x_goto 38 dX7_waitsFor_34 rfl ?_
          exact x_sub [0, 1, 3] rfl (xb_X7_waitsFor_38 hW ih hw)
def wp_X7_waitsFor (σ : xS) (a0 : Nat) (l1 : Int32) (Q : Int32 → Prop) : Prop := ∃ m4, wb_X7_waitsFor_4 Q σ a0 m4 l1 0 0
set_option maxRecDepth 100000 in
set_option maxHeartbeats 4000000 in
theorem ct_X7_waitsFor {σ : xS} {a0 : Nat}  {l1 : Int32} {Q : Int32 → Prop} (hW : xw7 σ a0) (hw : wp_X7_waitsFor σ a0 l1 Q) : xCt M_X7_waitsFor [.ref a0, .int l1] σ (xqI (fun r σ2 => σ = σ2 ∧ Q r )) := by
  refine xCt_ofL (lv := [(0, .ref a0), (1, .int l1)]) pn_X7 (Nat.le_of_ble_eq_true rfl) rfl ?_
  unfold wp_X7_waitsFor at hw
  refine x_iconst dX7_waitsFor_0 cI_0 ?_
  refine x_istore_n [(2, .int 0), (0, .ref a0), (1, .int l1)] dX7_waitsFor_1 rfl (Nat.le_of_ble_eq_true rfl) rfl ?_
  refine x_iconst dX7_waitsFor_2 cI_0 ?_
  refine x_istore_n [(3, .int 0), (2, .int 0), (0, .ref a0), (1, .int l1)] dX7_waitsFor_3 rfl (Nat.le_of_ble_eq_true rfl) rfl ?_
  obtain ⟨m4, hw⟩ := hw
  exact x_sub [2, 3, 1, 0] rfl (xl_X7_waitsFor_4 hW m4 _ _ _ hw)
-- PromiseWireModel.promise(II)I
def wp_X7_promise (σ : xS) (a0 : Nat) (l1 : Int32) (l2 : Int32) (Q : Int32 → Prop) : Prop := wp_X7_isPromise σ a0 l1 (fun x1 => (x1 = 0 → Q (-1)) ∧ (¬ x1 = 0 → (l2 = 0 → vp_in l1 100 ∧ (Q (xh_a σ (a0 + 9) l1.toNatClampNeg))) ∧ (¬ l2 = 0 → (l2 = 1 → vp_in l1 100 ∧ (Q (xh_a σ (a0 + 10) l1.toNatClampNeg))) ∧ (¬ l2 = 1 → (l2 = 2 → wp_X7_waitsFor σ a0 l1 (fun x9 => Q x9)) ∧ (¬ l2 = 2 → (l2 = 3 → vp_in l1 100 ∧ (Q (xh_a σ (a0 + 15) l1.toNatClampNeg))) ∧ (¬ l2 = 3 → (l2 = 4 → vp_in l1 100 ∧ (Q (xh_a σ (a0 + 16) l1.toNatClampNeg))) ∧ (¬ l2 = 4 → Q (-1))))))))
set_option maxRecDepth 100000 in
set_option maxHeartbeats 4000000 in
theorem ct_X7_promise {σ : xS} {a0 : Nat}  {l1 : Int32} {l2 : Int32} {Q : Int32 → Prop} (hW : xw7 σ a0) (hw : wp_X7_promise σ a0 l1 l2 Q) : xCt M_X7_promise [.ref a0, .int l1, .int l2] σ (xqI (fun r σ2 => σ = σ2 ∧ Q r )) := by
  refine xCt_ofL (lv := [(0, .ref a0), (1, .int l1), (2, .int l2)]) pn_X7 (Nat.le_of_ble_eq_true rfl) rfl ?_
  unfold wp_X7_promise at hw
  refine x_aload_n dX7_promise_0 rfl 0 rfl ?_
  refine x_iload_n dX7_promise_1 rfl 1 rfl ?_
  refine x_callV (M2 := M_X7_isPromise) (As := [.int l1]) (st := []) (ci := 7) (Nat.le_of_ble_eq_true rfl) hW.1 rfl wM_X7_280 wI_X7_isPromise wS_X7_isPromise dX7_promise_2 rfl ok_X7_isPromise ⟨(Nat.le_of_ble_eq_true rfl), (Nat.le_of_ble_eq_true rfl)⟩ (Nat.le_of_ble_eq_true rfl) (ct_X7_isPromise hW hw) (xqI.k (fun x1 τ2 hw2 => ?_))
  obtain ⟨he, hw⟩ := hw2
  subst he
  refine x_if_ne 10 dX7_promise_5 rfl (fun hc3 => ?_) (fun hc3 => ?_)
  · replace hw := hw.2 hc3
    refine x_iload_n dX7_promise_10 rfl 2 rfl ?_
    by_cases hc4 : l2 = 0
    · replace hw := hw.1 hc4
      refine x_tableIn (off := 33) 44 dX7_promise_11 (by rw [hc4]; decide) (by rw [hc4]; decide) (by rw [hc4]; rfl) rfl ?_
      refine x_aload_n dX7_promise_44 rfl 0 rfl ?_
      refine x_get (ci := 7) (k := 10) (v := .ref (a0 + 9)) dX7_promise_45 wF_X7_35 (Nat.le_of_ble_eq_true rfl) (Nat.le_of_ble_eq_true rfl) hW.1 (congrArg va_rf (w7r_9 hW)) ?_
      refine x_iload_n dX7_promise_48 rfl 1 rfl ?_
      obtain ⟨hv5, hw⟩ := hw
      refine x_ialdZ dX7_promise_49 (w7k_9 hW) (w7z_9 hW) hv5 ?_
      exact x_iret dX7_promise_50 rfl ⟨(xh_a σ (a0 + 9) l1.toNatClampNeg), rfl, rfl, hw⟩
    · replace hw := hw.2 hc4
      by_cases hc6 : l2 = 1
      · replace hw := hw.1 hc6
        refine x_tableIn (off := 40) 51 dX7_promise_11 (by rw [hc6]; decide) (by rw [hc6]; decide) (by rw [hc6]; rfl) rfl ?_
        refine x_aload_n dX7_promise_51 rfl 0 rfl ?_
        refine x_get (ci := 7) (k := 11) (v := .ref (a0 + 10)) dX7_promise_52 wF_X7_38 (Nat.le_of_ble_eq_true rfl) (Nat.le_of_ble_eq_true rfl) hW.1 (congrArg va_rf (w7r_10 hW)) ?_
        refine x_iload_n dX7_promise_55 rfl 1 rfl ?_
        obtain ⟨hv7, hw⟩ := hw
        refine x_ialdZ dX7_promise_56 (w7k_10 hW) (w7z_10 hW) hv7 ?_
        exact x_iret dX7_promise_57 rfl ⟨(xh_a σ (a0 + 10) l1.toNatClampNeg), rfl, rfl, hw⟩
      · replace hw := hw.2 hc6
        by_cases hc8 : l2 = 2
        · replace hw := hw.1 hc8
          refine x_tableIn (off := 47) 58 dX7_promise_11 (by rw [hc8]; decide) (by rw [hc8]; decide) (by rw [hc8]; rfl) rfl ?_
          refine x_aload_n dX7_promise_58 rfl 0 rfl ?_
          refine x_iload_n dX7_promise_59 rfl 1 rfl ?_
          refine x_callV (M2 := M_X7_waitsFor) (As := [.int l1]) (st := []) (ci := 7) (Nat.le_of_ble_eq_true rfl) hW.1 rfl wM_X7_293 wI_X7_waitsFor wS_X7_waitsFor dX7_promise_60 rfl ok_X7_waitsFor ⟨(Nat.le_of_ble_eq_true rfl), (Nat.le_of_ble_eq_true rfl)⟩ (Nat.le_of_ble_eq_true rfl) (ct_X7_waitsFor hW hw) (xqI.k (fun x9 τ10 hw2 => ?_))
          obtain ⟨he, hw⟩ := hw2
          subst he
          exact x_iret dX7_promise_63 rfl ⟨x9, rfl, rfl, hw⟩
        · replace hw := hw.2 hc8
          by_cases hc11 : l2 = 3
          · replace hw := hw.1 hc11
            refine x_tableIn (off := 53) 64 dX7_promise_11 (by rw [hc11]; decide) (by rw [hc11]; decide) (by rw [hc11]; rfl) rfl ?_
            refine x_aload_n dX7_promise_64 rfl 0 rfl ?_
            refine x_get (ci := 7) (k := 16) (v := .ref (a0 + 15)) dX7_promise_65 wF_X7_53 (Nat.le_of_ble_eq_true rfl) (Nat.le_of_ble_eq_true rfl) hW.1 (congrArg va_rf (w7r_15 hW)) ?_
            refine x_iload_n dX7_promise_68 rfl 1 rfl ?_
            obtain ⟨hv12, hw⟩ := hw
            refine x_ialdZ dX7_promise_69 (w7k_15 hW) (w7z_15 hW) hv12 ?_
            exact x_iret dX7_promise_70 rfl ⟨(xh_a σ (a0 + 15) l1.toNatClampNeg), rfl, rfl, hw⟩
          · replace hw := hw.2 hc11
            by_cases hc13 : l2 = 4
            · replace hw := hw.1 hc13
              refine x_tableIn (off := 60) 71 dX7_promise_11 (by rw [hc13]; decide) (by rw [hc13]; decide) (by rw [hc13]; rfl) rfl ?_
              refine x_aload_n dX7_promise_71 rfl 0 rfl ?_
              refine x_get (ci := 7) (k := 17) (v := .ref (a0 + 16)) dX7_promise_72 wF_X7_56 (Nat.le_of_ble_eq_true rfl) (Nat.le_of_ble_eq_true rfl) hW.1 (congrArg va_rf (w7r_16 hW)) ?_
              refine x_iload_n dX7_promise_75 rfl 1 rfl ?_
              obtain ⟨hv14, hw⟩ := hw
              refine x_ialdZ dX7_promise_76 (w7k_16 hW) (w7z_16 hW) hv14 ?_
              exact x_iret dX7_promise_77 rfl ⟨(xh_a σ (a0 + 16) l1.toNatClampNeg), rfl, rfl, hw⟩
            · replace hw := hw.2 hc13
              refine x_tableOut 78 dX7_promise_11 (xsw_0_4 hc4 hc6 hc8 hc11 hc13) rfl ?_
              refine x_iconst dX7_promise_78 cI_m1 ?_
              exact x_iret dX7_promise_79 rfl ⟨(-1), rfl, rfl, hw⟩
  · replace hw := hw.1 hc3
    refine x_iconst dX7_promise_8 cI_m1 ?_
    exact x_iret dX7_promise_9 rfl ⟨(-1), rfl, rfl, hw⟩
-- PromiseWireModel.firstLetter(II)I
def wb_X7_firstLetter_36 (Q : Int32 → Prop) (σ : xS) (a0 : Nat) (l3 : Int32) : Prop := Q l3
set_option maxRecDepth 100000 in
set_option maxHeartbeats 4000000 in
theorem xb_X7_firstLetter_36 {Q : Int32 → Prop} {σ : xS} {a0 : Nat}  {l3 : Int32} (hW : xw7 σ a0)  (hw : wb_X7_firstLetter_36 Q σ a0 l3) : xX M_X7_firstLetter 36 [(0, .ref a0), (3, .int l3)] [] σ (xqI (fun r σ2 => σ = σ2 ∧ Q r )) := by
  unfold wb_X7_firstLetter_36 at hw
  refine x_iload_n dX7_firstLetter_36 rfl 1 rfl ?_
  exact x_iret dX7_firstLetter_37 rfl ⟨l3, rfl, rfl, hw⟩
def wb_X7_firstLetter_30 (Q : Int32 → Prop) (K2 : Int32 → Int32 → Int32 → Prop) (σ : xS) (a0 : Nat) (l1 : Int32) (l2 : Int32) (l3 : Int32) : Prop := K2 l1 l2 (l3 + 1)
set_option maxRecDepth 100000 in
set_option maxHeartbeats 4000000 in
theorem xb_X7_firstLetter_30 {Q : Int32 → Prop} {K2 : Int32 → Int32 → Int32 → Prop} {σ : xS} {a0 : Nat}  {l1 : Int32} {l2 : Int32} {l3 : Int32} (hW : xw7 σ a0)  (hK2 : ∀ (l1 : Int32) (l2 : Int32) (l3 : Int32), K2 l1 l2 l3 → xX M_X7_firstLetter 2 [(0, .ref a0), (1, .int l1), (2, .int l2), (3, .int l3)] [] σ (xqI (fun r σ2 => σ = σ2 ∧ Q r ))) (hw : wb_X7_firstLetter_30 Q K2 σ a0 l1 l2 l3) : xX M_X7_firstLetter 30 [(0, .ref a0), (1, .int l1), (2, .int l2), (3, .int l3)] [] σ (xqI (fun r σ2 => σ = σ2 ∧ Q r )) := by
  unfold wb_X7_firstLetter_30 at hw
  refine x_iinc [(3, .int (l3 + 1)), (0, .ref a0), (1, .int l1), (2, .int l2)] dX7_firstLetter_30 3 rfl (congrArg _ cI_1) (Nat.le_of_ble_eq_true rfl) rfl ?_
  refine x_goto 2 dX7_firstLetter_33 rfl ?_
  exact x_sub [1, 2, 3, 0] rfl (hK2 _ _ _ hw)
def wb_X7_firstLetter_2 (Q : Int32 → Prop) (σ : xS) (a0 : Nat) : Nat → Int32 → Int32 → Int32 → Prop
  | 0, _, _, _ => False
  | n + 1, l1, l2, l3 => ((xh_I σ 478 a0) ≤ l3 → wb_X7_firstLetter_36 Q σ a0 l3) ∧ (¬ (xh_I σ 478 a0) ≤ l3 → vp_in l3 400 ∧ (((xh_a σ (a0 + 28) l3.toNatClampNeg) = l1 → vp_in l3 400 ∧ (((xh_a σ (a0 + 29) l3.toNatClampNeg) = l2 → wb_X7_firstLetter_36 Q σ a0 l3) ∧ (¬ (xh_a σ (a0 + 29) l3.toNatClampNeg) = l2 → wb_X7_firstLetter_30 Q (fun l1 l2 l3 => wb_X7_firstLetter_2 Q σ a0 n l1 l2 l3) σ a0 l1 l2 l3))) ∧ (¬ (xh_a σ (a0 + 28) l3.toNatClampNeg) = l1 → wb_X7_firstLetter_30 Q (fun l1 l2 l3 => wb_X7_firstLetter_2 Q σ a0 n l1 l2 l3) σ a0 l1 l2 l3)))
set_option maxRecDepth 100000 in
set_option maxHeartbeats 4000000 in
theorem xl_X7_firstLetter_2 {Q : Int32 → Prop} {σ : xS} {a0 : Nat}  (hW : xw7 σ a0)  : ∀ (n : Nat) (l1 : Int32) (l2 : Int32) (l3 : Int32), wb_X7_firstLetter_2 Q σ a0 n l1 l2 l3 → xX M_X7_firstLetter 2 [(0, .ref a0), (1, .int l1), (2, .int l2), (3, .int l3)] [] σ (xqI (fun r σ2 => σ = σ2 ∧ Q r )) := by
  intro n
  induction n with
  | zero => intro l1 l2 l3 hw; exact False.elim hw
  | succ n ih =>
    intro l1 l2 l3 hw
    unfold wb_X7_firstLetter_2 at hw
    refine x_iload_n dX7_firstLetter_2 rfl 3 rfl ?_
    refine x_aload_n dX7_firstLetter_3 rfl 0 rfl ?_
    refine x_get (ci := 7) (k := 30) (v := .int (xh_I σ 478 a0)) dX7_firstLetter_4 wF_X7_147 (Nat.le_of_ble_eq_true rfl) (Nat.le_of_ble_eq_true rfl) hW.1 rfl ?_
    refine x_icmp_ge 36 dX7_firstLetter_7 rfl (fun hc1 => ?_) (fun hc1 => ?_)
    · replace hw := hw.1 hc1
      exact x_sub [0, 3] rfl (xb_X7_firstLetter_36 hW hw)
    · replace hw := hw.2 hc1
      refine x_aload_n dX7_firstLetter_10 rfl 0 rfl ?_
      refine x_get (ci := 7) (k := 32) (v := .ref (a0 + 28)) dX7_firstLetter_11 wF_X7_92 (Nat.le_of_ble_eq_true rfl) (Nat.le_of_ble_eq_true rfl) hW.1 (congrArg va_rf (w7r_28 hW)) ?_
      refine x_iload_n dX7_firstLetter_14 rfl 3 rfl ?_
      obtain ⟨hv2, hw⟩ := hw
      refine x_ialdZ dX7_firstLetter_15 (w7k_28 hW) (w7z_28 hW) hv2 ?_
      refine x_iload_n dX7_firstLetter_16 rfl 1 rfl ?_
      refine x_icmp_ne 30 dX7_firstLetter_17 rfl (fun hc3 => ?_) (fun hc3 => ?_)
      · replace hw := hw.2 hc3
        exact x_sub [0, 1, 2, 3] rfl (xb_X7_firstLetter_30 hW ih hw)
      · replace hw := hw.1 hc3
        refine x_aload_n dX7_firstLetter_20 rfl 0 rfl ?_
        refine x_get (ci := 7) (k := 33) (v := .ref (a0 + 29)) dX7_firstLetter_21 wF_X7_95 (Nat.le_of_ble_eq_true rfl) (Nat.le_of_ble_eq_true rfl) hW.1 (congrArg va_rf (w7r_29 hW)) ?_
        refine x_iload_n dX7_firstLetter_24 rfl 3 rfl ?_
        obtain ⟨hv4, hw⟩ := hw
        refine x_ialdZ dX7_firstLetter_25 (w7k_29 hW) (w7z_29 hW) hv4 ?_
        refine x_iload_n dX7_firstLetter_26 rfl 2 rfl ?_
        refine x_icmp_eq 36 dX7_firstLetter_27 rfl (fun hc5 => ?_) (fun hc5 => ?_)
        · replace hw := hw.1 hc5
          exact x_sub [0, 3] rfl (xb_X7_firstLetter_36 hW hw)
        · replace hw := hw.2 hc5
          exact x_sub [0, 1, 2, 3] rfl (xb_X7_firstLetter_30 hW ih hw)
def wp_X7_firstLetter (σ : xS) (a0 : Nat) (l1 : Int32) (l2 : Int32) (Q : Int32 → Prop) : Prop := ∃ m2, wb_X7_firstLetter_2 Q σ a0 m2 l1 l2 0
set_option maxRecDepth 100000 in
set_option maxHeartbeats 4000000 in
theorem ct_X7_firstLetter {σ : xS} {a0 : Nat}  {l1 : Int32} {l2 : Int32} {Q : Int32 → Prop} (hW : xw7 σ a0) (hw : wp_X7_firstLetter σ a0 l1 l2 Q) : xCt M_X7_firstLetter [.ref a0, .int l1, .int l2] σ (xqI (fun r σ2 => σ = σ2 ∧ Q r )) := by
  refine xCt_ofL (lv := [(0, .ref a0), (1, .int l1), (2, .int l2)]) pn_X7 (Nat.le_of_ble_eq_true rfl) rfl ?_
  unfold wp_X7_firstLetter at hw
  refine x_iconst dX7_firstLetter_0 cI_0 ?_
  refine x_istore_n [(3, .int 0), (0, .ref a0), (1, .int l1), (2, .int l2)] dX7_firstLetter_1 rfl (Nat.le_of_ble_eq_true rfl) rfl ?_
  obtain ⟨m2, hw⟩ := hw
  exact x_sub [1, 2, 3, 0] rfl (xl_X7_firstLetter_2 hW m2 _ _ _ hw)
-- PromiseWireModel.takesOut(I)V
def wb_X7_takesOut_102 (Q : xS → Prop) (a0 : Nat) : Nat → xS → Int32 → Prop
  | 0, _, _ => False
  | n + 1, σ, l2 => ((xh_I σ 478 a0) ≤ l2 → Q σ) ∧ (¬ (xh_I σ 478 a0) ≤ l2 → vp_in (l2 + 1) 400 ∧ (vp_in l2 400 ∧ ∀ σ4, σ4 = xs_a σ (a0 + 27) l2.toNatClampNeg (xh_a σ (a0 + 27) (l2 + 1).toNatClampNeg) → (vp_in (l2 + 1) 400 ∧ (vp_in l2 400 ∧ ∀ σ7, σ7 = xs_a σ4 (a0 + 28) l2.toNatClampNeg (xh_a σ4 (a0 + 28) (l2 + 1).toNatClampNeg) → (vp_in (l2 + 1) 400 ∧ (vp_in l2 400 ∧ ∀ σ10, σ10 = xs_a σ7 (a0 + 29) l2.toNatClampNeg (xh_a σ7 (a0 + 29) (l2 + 1).toNatClampNeg) → (vp_in (l2 + 1) 400 ∧ (vp_in l2 400 ∧ ∀ σ13, σ13 = xs_a σ10 (a0 + 30) l2.toNatClampNeg (xh_a σ10 (a0 + 30) (l2 + 1).toNatClampNeg) → (vp_in (l2 + 1) 400 ∧ (vp_in l2 400 ∧ ∀ σ16, σ16 = xs_a σ13 (a0 + 31) l2.toNatClampNeg (xh_a σ13 (a0 + 31) (l2 + 1).toNatClampNeg) → (vp_in (l2 + 1) 400 ∧ (vp_in l2 400 ∧ ∀ σ19, σ19 = xs_a σ16 (a0 + 32) l2.toNatClampNeg (xh_a σ16 (a0 + 32) (l2 + 1).toNatClampNeg) → (vp_in (l2 + 1) 400 ∧ (vp_in l2 400 ∧ ∀ σ22, σ22 = xs_a σ19 (a0 + 33) l2.toNatClampNeg (xh_a σ19 (a0 + 33) (l2 + 1).toNatClampNeg) → (vp_in (l2 + 1) 400 ∧ (vp_in l2 400 ∧ ∀ σ25, σ25 = xs_a σ22 (a0 + 34) l2.toNatClampNeg (xh_a σ22 (a0 + 34) (l2 + 1).toNatClampNeg) → (vp_in (l2 + 1) 400 ∧ (vp_in l2 400 ∧ (xh_a σ25 (a0 + 35) (l2 + 1).toNatClampNeg = 0 ∨ xh_a σ25 (a0 + 35) (l2 + 1).toNatClampNeg = 1) ∧ ∀ σ29, σ29 = xs_a σ25 (a0 + 35) l2.toNatClampNeg (xh_a σ25 (a0 + 35) (l2 + 1).toNatClampNeg) → (wb_X7_takesOut_102 Q a0 n σ29 (l2 + 1))))))))))))))))))))
set_option maxRecDepth 100000 in
set_option maxHeartbeats 4000000 in
theorem xl_X7_takesOut_102 {Q : xS → Prop} {a0 : Nat}  : ∀ (n : Nat) (σ : xS) (l2 : Int32), xw7 σ a0 → wb_X7_takesOut_102 Q a0 n σ l2 → xX M_X7_takesOut 102 [(0, .ref a0), (2, .int l2)] [] σ (xqV (fun σ2 => xw7 σ2 a0 ∧ Q σ2)) := by
  intro n
  induction n with
  | zero => intro σ l2 hW hw; exact False.elim hw
  | succ n ih =>
    intro σ l2 hW hw
    unfold wb_X7_takesOut_102 at hw
    refine x_iload_n dX7_takesOut_102 rfl 1 rfl ?_
    refine x_aload_n dX7_takesOut_103 rfl 0 rfl ?_
    refine x_get (ci := 7) (k := 30) (v := .int (xh_I σ 478 a0)) dX7_takesOut_104 wF_X7_147 (Nat.le_of_ble_eq_true rfl) (Nat.le_of_ble_eq_true rfl) hW.1 rfl ?_
    refine x_icmp_ge 242 dX7_takesOut_107 rfl (fun hc1 => ?_) (fun hc1 => ?_)
    · replace hw := hw.1 hc1
      exact x_vret dX7_takesOut_242 rfl ⟨rfl, hW, hw⟩
    · replace hw := hw.2 hc1
      refine x_aload_n dX7_takesOut_110 rfl 0 rfl ?_
      refine x_get (ci := 7) (k := 31) (v := .ref (a0 + 27)) dX7_takesOut_111 wF_X7_89 (Nat.le_of_ble_eq_true rfl) (Nat.le_of_ble_eq_true rfl) hW.1 (congrArg va_rf (w7r_27 hW)) ?_
      refine x_iload_n dX7_takesOut_114 rfl 1 rfl ?_
      refine x_aload_n dX7_takesOut_115 rfl 0 rfl ?_
      refine x_get (ci := 7) (k := 31) (v := .ref (a0 + 27)) dX7_takesOut_116 wF_X7_89 (Nat.le_of_ble_eq_true rfl) (Nat.le_of_ble_eq_true rfl) hW.1 (congrArg va_rf (w7r_27 hW)) ?_
      refine x_iload_n dX7_takesOut_119 rfl 1 rfl ?_
      refine x_iconst dX7_takesOut_120 cI_1 ?_
      refine x_iadd dX7_takesOut_121 ?_
      obtain ⟨hv2, hw⟩ := hw
      refine x_ialdZ dX7_takesOut_122 (w7k_27 hW) (w7z_27 hW) hv2 ?_
      obtain ⟨hv3, hw⟩ := hw
      refine x_iastN dX7_takesOut_123 (w7k_27 hW) (w7z_27 hW) hv3 (fun σ4 hσ4 => ?_)
      replace hw := hw σ4 hσ4
      refine x_aload_n dX7_takesOut_124 rfl 0 rfl ?_
      have hW := (xw7_a hσ4 hW)
      refine x_get (ci := 7) (k := 32) (v := .ref (a0 + 28)) dX7_takesOut_125 wF_X7_92 (Nat.le_of_ble_eq_true rfl) (Nat.le_of_ble_eq_true rfl) hW.1 (congrArg va_rf (w7r_28 hW)) ?_
      refine x_iload_n dX7_takesOut_128 rfl 1 rfl ?_
      refine x_aload_n dX7_takesOut_129 rfl 0 rfl ?_
      refine x_get (ci := 7) (k := 32) (v := .ref (a0 + 28)) dX7_takesOut_130 wF_X7_92 (Nat.le_of_ble_eq_true rfl) (Nat.le_of_ble_eq_true rfl) hW.1 (congrArg va_rf (w7r_28 hW)) ?_
      refine x_iload_n dX7_takesOut_133 rfl 1 rfl ?_
      refine x_iconst dX7_takesOut_134 cI_1 ?_
      refine x_iadd dX7_takesOut_135 ?_
      obtain ⟨hv5, hw⟩ := hw
      refine x_ialdZ dX7_takesOut_136 (w7k_28 hW) (w7z_28 hW) hv5 ?_
      obtain ⟨hv6, hw⟩ := hw
      refine x_iastN dX7_takesOut_137 (w7k_28 hW) (w7z_28 hW) hv6 (fun σ7 hσ7 => ?_)
      replace hw := hw σ7 hσ7
      refine x_aload_n dX7_takesOut_138 rfl 0 rfl ?_
      have hW := (xw7_a hσ7 hW)
      refine x_get (ci := 7) (k := 33) (v := .ref (a0 + 29)) dX7_takesOut_139 wF_X7_95 (Nat.le_of_ble_eq_true rfl) (Nat.le_of_ble_eq_true rfl) hW.1 (congrArg va_rf (w7r_29 hW)) ?_
      refine x_iload_n dX7_takesOut_142 rfl 1 rfl ?_
      refine x_aload_n dX7_takesOut_143 rfl 0 rfl ?_
      refine x_get (ci := 7) (k := 33) (v := .ref (a0 + 29)) dX7_takesOut_144 wF_X7_95 (Nat.le_of_ble_eq_true rfl) (Nat.le_of_ble_eq_true rfl) hW.1 (congrArg va_rf (w7r_29 hW)) ?_
      refine x_iload_n dX7_takesOut_147 rfl 1 rfl ?_
      refine x_iconst dX7_takesOut_148 cI_1 ?_
      refine x_iadd dX7_takesOut_149 ?_
      obtain ⟨hv8, hw⟩ := hw
      refine x_ialdZ dX7_takesOut_150 (w7k_29 hW) (w7z_29 hW) hv8 ?_
      obtain ⟨hv9, hw⟩ := hw
      refine x_iastN dX7_takesOut_151 (w7k_29 hW) (w7z_29 hW) hv9 (fun σ10 hσ10 => ?_)
      replace hw := hw σ10 hσ10
      refine x_aload_n dX7_takesOut_152 rfl 0 rfl ?_
      have hW := (xw7_a hσ10 hW)
      refine x_get (ci := 7) (k := 34) (v := .ref (a0 + 30)) dX7_takesOut_153 wF_X7_98 (Nat.le_of_ble_eq_true rfl) (Nat.le_of_ble_eq_true rfl) hW.1 (congrArg va_rf (w7r_30 hW)) ?_
      refine x_iload_n dX7_takesOut_156 rfl 1 rfl ?_
      refine x_aload_n dX7_takesOut_157 rfl 0 rfl ?_
      refine x_get (ci := 7) (k := 34) (v := .ref (a0 + 30)) dX7_takesOut_158 wF_X7_98 (Nat.le_of_ble_eq_true rfl) (Nat.le_of_ble_eq_true rfl) hW.1 (congrArg va_rf (w7r_30 hW)) ?_
      refine x_iload_n dX7_takesOut_161 rfl 1 rfl ?_
      refine x_iconst dX7_takesOut_162 cI_1 ?_
      refine x_iadd dX7_takesOut_163 ?_
      obtain ⟨hv11, hw⟩ := hw
      refine x_ialdZ dX7_takesOut_164 (w7k_30 hW) (w7z_30 hW) hv11 ?_
      obtain ⟨hv12, hw⟩ := hw
      refine x_iastN dX7_takesOut_165 (w7k_30 hW) (w7z_30 hW) hv12 (fun σ13 hσ13 => ?_)
      replace hw := hw σ13 hσ13
      refine x_aload_n dX7_takesOut_166 rfl 0 rfl ?_
      have hW := (xw7_a hσ13 hW)
      refine x_get (ci := 7) (k := 35) (v := .ref (a0 + 31)) dX7_takesOut_167 wF_X7_101 (Nat.le_of_ble_eq_true rfl) (Nat.le_of_ble_eq_true rfl) hW.1 (congrArg va_rf (w7r_31 hW)) ?_
      refine x_iload_n dX7_takesOut_170 rfl 1 rfl ?_
      refine x_aload_n dX7_takesOut_171 rfl 0 rfl ?_
      refine x_get (ci := 7) (k := 35) (v := .ref (a0 + 31)) dX7_takesOut_172 wF_X7_101 (Nat.le_of_ble_eq_true rfl) (Nat.le_of_ble_eq_true rfl) hW.1 (congrArg va_rf (w7r_31 hW)) ?_
      refine x_iload_n dX7_takesOut_175 rfl 1 rfl ?_
      refine x_iconst dX7_takesOut_176 cI_1 ?_
      refine x_iadd dX7_takesOut_177 ?_
      obtain ⟨hv14, hw⟩ := hw
      refine x_ialdZ dX7_takesOut_178 (w7k_31 hW) (w7z_31 hW) hv14 ?_
      obtain ⟨hv15, hw⟩ := hw
      refine x_iastN dX7_takesOut_179 (w7k_31 hW) (w7z_31 hW) hv15 (fun σ16 hσ16 => ?_)
      replace hw := hw σ16 hσ16
      refine x_aload_n dX7_takesOut_180 rfl 0 rfl ?_
      have hW := (xw7_a hσ16 hW)
      refine x_get (ci := 7) (k := 36) (v := .ref (a0 + 32)) dX7_takesOut_181 wF_X7_104 (Nat.le_of_ble_eq_true rfl) (Nat.le_of_ble_eq_true rfl) hW.1 (congrArg va_rf (w7r_32 hW)) ?_
      refine x_iload_n dX7_takesOut_184 rfl 1 rfl ?_
      refine x_aload_n dX7_takesOut_185 rfl 0 rfl ?_
      refine x_get (ci := 7) (k := 36) (v := .ref (a0 + 32)) dX7_takesOut_186 wF_X7_104 (Nat.le_of_ble_eq_true rfl) (Nat.le_of_ble_eq_true rfl) hW.1 (congrArg va_rf (w7r_32 hW)) ?_
      refine x_iload_n dX7_takesOut_189 rfl 1 rfl ?_
      refine x_iconst dX7_takesOut_190 cI_1 ?_
      refine x_iadd dX7_takesOut_191 ?_
      obtain ⟨hv17, hw⟩ := hw
      refine x_ialdZ dX7_takesOut_192 (w7k_32 hW) (w7z_32 hW) hv17 ?_
      obtain ⟨hv18, hw⟩ := hw
      refine x_iastN dX7_takesOut_193 (w7k_32 hW) (w7z_32 hW) hv18 (fun σ19 hσ19 => ?_)
      replace hw := hw σ19 hσ19
      refine x_aload_n dX7_takesOut_194 rfl 0 rfl ?_
      have hW := (xw7_a hσ19 hW)
      refine x_get (ci := 7) (k := 37) (v := .ref (a0 + 33)) dX7_takesOut_195 wF_X7_107 (Nat.le_of_ble_eq_true rfl) (Nat.le_of_ble_eq_true rfl) hW.1 (congrArg va_rf (w7r_33 hW)) ?_
      refine x_iload_n dX7_takesOut_198 rfl 1 rfl ?_
      refine x_aload_n dX7_takesOut_199 rfl 0 rfl ?_
      refine x_get (ci := 7) (k := 37) (v := .ref (a0 + 33)) dX7_takesOut_200 wF_X7_107 (Nat.le_of_ble_eq_true rfl) (Nat.le_of_ble_eq_true rfl) hW.1 (congrArg va_rf (w7r_33 hW)) ?_
      refine x_iload_n dX7_takesOut_203 rfl 1 rfl ?_
      refine x_iconst dX7_takesOut_204 cI_1 ?_
      refine x_iadd dX7_takesOut_205 ?_
      obtain ⟨hv20, hw⟩ := hw
      refine x_ialdZ dX7_takesOut_206 (w7k_33 hW) (w7z_33 hW) hv20 ?_
      obtain ⟨hv21, hw⟩ := hw
      refine x_iastN dX7_takesOut_207 (w7k_33 hW) (w7z_33 hW) hv21 (fun σ22 hσ22 => ?_)
      replace hw := hw σ22 hσ22
      refine x_aload_n dX7_takesOut_208 rfl 0 rfl ?_
      have hW := (xw7_a hσ22 hW)
      refine x_get (ci := 7) (k := 38) (v := .ref (a0 + 34)) dX7_takesOut_209 wF_X7_110 (Nat.le_of_ble_eq_true rfl) (Nat.le_of_ble_eq_true rfl) hW.1 (congrArg va_rf (w7r_34 hW)) ?_
      refine x_iload_n dX7_takesOut_212 rfl 1 rfl ?_
      refine x_aload_n dX7_takesOut_213 rfl 0 rfl ?_
      refine x_get (ci := 7) (k := 38) (v := .ref (a0 + 34)) dX7_takesOut_214 wF_X7_110 (Nat.le_of_ble_eq_true rfl) (Nat.le_of_ble_eq_true rfl) hW.1 (congrArg va_rf (w7r_34 hW)) ?_
      refine x_iload_n dX7_takesOut_217 rfl 1 rfl ?_
      refine x_iconst dX7_takesOut_218 cI_1 ?_
      refine x_iadd dX7_takesOut_219 ?_
      obtain ⟨hv23, hw⟩ := hw
      refine x_ialdZ dX7_takesOut_220 (w7k_34 hW) (w7z_34 hW) hv23 ?_
      obtain ⟨hv24, hw⟩ := hw
      refine x_iastN dX7_takesOut_221 (w7k_34 hW) (w7z_34 hW) hv24 (fun σ25 hσ25 => ?_)
      replace hw := hw σ25 hσ25
      refine x_aload_n dX7_takesOut_222 rfl 0 rfl ?_
      have hW := (xw7_a hσ25 hW)
      refine x_get (ci := 7) (k := 39) (v := .ref (a0 + 35)) dX7_takesOut_223 wF_X7_113 (Nat.le_of_ble_eq_true rfl) (Nat.le_of_ble_eq_true rfl) hW.1 (congrArg va_rf (w7r_35 hW)) ?_
      refine x_iload_n dX7_takesOut_226 rfl 1 rfl ?_
      refine x_aload_n dX7_takesOut_227 rfl 0 rfl ?_
      refine x_get (ci := 7) (k := 39) (v := .ref (a0 + 35)) dX7_takesOut_228 wF_X7_113 (Nat.le_of_ble_eq_true rfl) (Nat.le_of_ble_eq_true rfl) hW.1 (congrArg va_rf (w7r_35 hW)) ?_
      refine x_iload_n dX7_takesOut_231 rfl 1 rfl ?_
      refine x_iconst dX7_takesOut_232 cI_1 ?_
      refine x_iadd dX7_takesOut_233 ?_
      obtain ⟨hv26, hw⟩ := hw
      refine x_zaldZ dX7_takesOut_234 (w7k_35 hW) (w7z_35 hW) hv26 ?_
      obtain ⟨hv27, hw⟩ := hw
      obtain ⟨hz28, hw⟩ := hw
      refine x_zastN dX7_takesOut_235 (w7k_35 hW) (w7z_35 hW) hv27 hz28 (fun σ29 hσ29 => ?_)
      replace hw := hw σ29 hσ29
      refine x_iinc [(2, .int (l2 + 1)), (0, .ref a0)] dX7_takesOut_236 1 rfl (congrArg _ cI_1) (Nat.le_of_ble_eq_true rfl) rfl ?_
      refine x_goto 102 dX7_takesOut_239 rfl ?_
      have hW := (xw7_a hσ29 hW)
      exact x_sub [1, 0] rfl (ih _ _ hW hw)
def wp_X7_takesOut (σ : xS) (a0 : Nat) (l1 : Int32) (Q : xS → Prop) : Prop := vp_in l1 400 ∧ (∀ σ31, σ31 = xs_I σ 498 a0 (xh_a σ (a0 + 27) l1.toNatClampNeg) → (vp_in l1 400 ∧ (∀ σ33, σ33 = xs_I σ31 499 a0 (xh_a σ31 (a0 + 28) l1.toNatClampNeg) → (vp_in l1 400 ∧ (∀ σ35, σ35 = xs_I σ33 500 a0 (xh_a σ33 (a0 + 29) l1.toNatClampNeg) → (vp_in l1 400 ∧ (∀ σ37, σ37 = xs_I σ35 501 a0 (xh_a σ35 (a0 + 30) l1.toNatClampNeg) → (vp_in l1 400 ∧ (∀ σ39, σ39 = xs_I σ37 502 a0 (xh_a σ37 (a0 + 31) l1.toNatClampNeg) → (vp_in l1 400 ∧ (∀ σ41, σ41 = xs_I σ39 503 a0 (xh_a σ39 (a0 + 32) l1.toNatClampNeg) → (vp_in l1 400 ∧ (∀ σ43, σ43 = xs_I σ41 504 a0 (xh_a σ41 (a0 + 33) l1.toNatClampNeg) → (vp_in l1 400 ∧ (∀ σ45, σ45 = xs_I σ43 505 a0 (xh_a σ43 (a0 + 34) l1.toNatClampNeg) → (vp_in l1 400 ∧ ((xh_a σ45 (a0 + 35) l1.toNatClampNeg = 0 ∨ xh_a σ45 (a0 + 35) l1.toNatClampNeg = 1) ∧ ∀ σ48, σ48 = xs_I σ45 506 a0 (xh_a σ45 (a0 + 35) l1.toNatClampNeg) → (∀ σ49, σ49 = xs_I σ48 478 a0 ((xh_I σ48 478 a0) - 1) → (∃ m102, wb_X7_takesOut_102 Q a0 m102 σ49 l1)))))))))))))))))))
set_option maxRecDepth 100000 in
set_option maxHeartbeats 4000000 in
theorem ct_X7_takesOut {σ : xS} {a0 : Nat}  {l1 : Int32} {Q : xS → Prop} (hW : xw7 σ a0) (hw : wp_X7_takesOut σ a0 l1 Q) : xCt M_X7_takesOut [.ref a0, .int l1] σ (xqV (fun σ2 => xw7 σ2 a0 ∧ Q σ2)) := by
  refine xCt_ofL (lv := [(0, .ref a0), (1, .int l1)]) pn_X7 (Nat.le_of_ble_eq_true rfl) rfl ?_
  unfold wp_X7_takesOut at hw
  refine x_aload_n dX7_takesOut_0 rfl 0 rfl ?_
  refine x_aload_n dX7_takesOut_1 rfl 0 rfl ?_
  refine x_get (ci := 7) (k := 31) (v := .ref (a0 + 27)) dX7_takesOut_2 wF_X7_89 (Nat.le_of_ble_eq_true rfl) (Nat.le_of_ble_eq_true rfl) hW.1 (congrArg va_rf (w7r_27 hW)) ?_
  refine x_iload_n dX7_takesOut_5 rfl 1 rfl ?_
  obtain ⟨hv30, hw⟩ := hw
  refine x_ialdZ dX7_takesOut_6 (w7k_27 hW) (w7z_27 hW) hv30 ?_
  refine x_putIN (ci := 7) (k := 50) (f := 498) dX7_takesOut_7 wF_X7_297 (Nat.le_of_ble_eq_true rfl) (Nat.le_of_ble_eq_true rfl) hW.1 (Or.inl rfl) rfl (Or.inl rfl) (fun σ31 hσ31 => ?_)
  replace hw := hw σ31 hσ31
  refine x_aload_n dX7_takesOut_10 rfl 0 rfl ?_
  refine x_aload_n dX7_takesOut_11 rfl 0 rfl ?_
  have hW := (xw7_I hσ31 hW)
  refine x_get (ci := 7) (k := 32) (v := .ref (a0 + 28)) dX7_takesOut_12 wF_X7_92 (Nat.le_of_ble_eq_true rfl) (Nat.le_of_ble_eq_true rfl) hW.1 (congrArg va_rf (w7r_28 hW)) ?_
  refine x_iload_n dX7_takesOut_15 rfl 1 rfl ?_
  obtain ⟨hv32, hw⟩ := hw
  refine x_ialdZ dX7_takesOut_16 (w7k_28 hW) (w7z_28 hW) hv32 ?_
  refine x_putIN (ci := 7) (k := 51) (f := 499) dX7_takesOut_17 wF_X7_300 (Nat.le_of_ble_eq_true rfl) (Nat.le_of_ble_eq_true rfl) hW.1 (Or.inl rfl) rfl (Or.inl rfl) (fun σ33 hσ33 => ?_)
  replace hw := hw σ33 hσ33
  refine x_aload_n dX7_takesOut_20 rfl 0 rfl ?_
  refine x_aload_n dX7_takesOut_21 rfl 0 rfl ?_
  have hW := (xw7_I hσ33 hW)
  refine x_get (ci := 7) (k := 33) (v := .ref (a0 + 29)) dX7_takesOut_22 wF_X7_95 (Nat.le_of_ble_eq_true rfl) (Nat.le_of_ble_eq_true rfl) hW.1 (congrArg va_rf (w7r_29 hW)) ?_
  refine x_iload_n dX7_takesOut_25 rfl 1 rfl ?_
  obtain ⟨hv34, hw⟩ := hw
  refine x_ialdZ dX7_takesOut_26 (w7k_29 hW) (w7z_29 hW) hv34 ?_
  refine x_putIN (ci := 7) (k := 52) (f := 500) dX7_takesOut_27 wF_X7_303 (Nat.le_of_ble_eq_true rfl) (Nat.le_of_ble_eq_true rfl) hW.1 (Or.inl rfl) rfl (Or.inl rfl) (fun σ35 hσ35 => ?_)
  replace hw := hw σ35 hσ35
  refine x_aload_n dX7_takesOut_30 rfl 0 rfl ?_
  refine x_aload_n dX7_takesOut_31 rfl 0 rfl ?_
  have hW := (xw7_I hσ35 hW)
  refine x_get (ci := 7) (k := 34) (v := .ref (a0 + 30)) dX7_takesOut_32 wF_X7_98 (Nat.le_of_ble_eq_true rfl) (Nat.le_of_ble_eq_true rfl) hW.1 (congrArg va_rf (w7r_30 hW)) ?_
  refine x_iload_n dX7_takesOut_35 rfl 1 rfl ?_
  obtain ⟨hv36, hw⟩ := hw
  refine x_ialdZ dX7_takesOut_36 (w7k_30 hW) (w7z_30 hW) hv36 ?_
  refine x_putIN (ci := 7) (k := 53) (f := 501) dX7_takesOut_37 wF_X7_306 (Nat.le_of_ble_eq_true rfl) (Nat.le_of_ble_eq_true rfl) hW.1 (Or.inl rfl) rfl (Or.inl rfl) (fun σ37 hσ37 => ?_)
  replace hw := hw σ37 hσ37
  refine x_aload_n dX7_takesOut_40 rfl 0 rfl ?_
  refine x_aload_n dX7_takesOut_41 rfl 0 rfl ?_
  have hW := (xw7_I hσ37 hW)
  refine x_get (ci := 7) (k := 35) (v := .ref (a0 + 31)) dX7_takesOut_42 wF_X7_101 (Nat.le_of_ble_eq_true rfl) (Nat.le_of_ble_eq_true rfl) hW.1 (congrArg va_rf (w7r_31 hW)) ?_
  refine x_iload_n dX7_takesOut_45 rfl 1 rfl ?_
  obtain ⟨hv38, hw⟩ := hw
  refine x_ialdZ dX7_takesOut_46 (w7k_31 hW) (w7z_31 hW) hv38 ?_
  refine x_putIN (ci := 7) (k := 54) (f := 502) dX7_takesOut_47 wF_X7_309 (Nat.le_of_ble_eq_true rfl) (Nat.le_of_ble_eq_true rfl) hW.1 (Or.inl rfl) rfl (Or.inl rfl) (fun σ39 hσ39 => ?_)
  replace hw := hw σ39 hσ39
  refine x_aload_n dX7_takesOut_50 rfl 0 rfl ?_
  refine x_aload_n dX7_takesOut_51 rfl 0 rfl ?_
  have hW := (xw7_I hσ39 hW)
  refine x_get (ci := 7) (k := 36) (v := .ref (a0 + 32)) dX7_takesOut_52 wF_X7_104 (Nat.le_of_ble_eq_true rfl) (Nat.le_of_ble_eq_true rfl) hW.1 (congrArg va_rf (w7r_32 hW)) ?_
  refine x_iload_n dX7_takesOut_55 rfl 1 rfl ?_
  obtain ⟨hv40, hw⟩ := hw
  refine x_ialdZ dX7_takesOut_56 (w7k_32 hW) (w7z_32 hW) hv40 ?_
  refine x_putIN (ci := 7) (k := 55) (f := 503) dX7_takesOut_57 wF_X7_312 (Nat.le_of_ble_eq_true rfl) (Nat.le_of_ble_eq_true rfl) hW.1 (Or.inl rfl) rfl (Or.inl rfl) (fun σ41 hσ41 => ?_)
  replace hw := hw σ41 hσ41
  refine x_aload_n dX7_takesOut_60 rfl 0 rfl ?_
  refine x_aload_n dX7_takesOut_61 rfl 0 rfl ?_
  have hW := (xw7_I hσ41 hW)
  refine x_get (ci := 7) (k := 37) (v := .ref (a0 + 33)) dX7_takesOut_62 wF_X7_107 (Nat.le_of_ble_eq_true rfl) (Nat.le_of_ble_eq_true rfl) hW.1 (congrArg va_rf (w7r_33 hW)) ?_
  refine x_iload_n dX7_takesOut_65 rfl 1 rfl ?_
  obtain ⟨hv42, hw⟩ := hw
  refine x_ialdZ dX7_takesOut_66 (w7k_33 hW) (w7z_33 hW) hv42 ?_
  refine x_putIN (ci := 7) (k := 56) (f := 504) dX7_takesOut_67 wF_X7_315 (Nat.le_of_ble_eq_true rfl) (Nat.le_of_ble_eq_true rfl) hW.1 (Or.inl rfl) rfl (Or.inl rfl) (fun σ43 hσ43 => ?_)
  replace hw := hw σ43 hσ43
  refine x_aload_n dX7_takesOut_70 rfl 0 rfl ?_
  refine x_aload_n dX7_takesOut_71 rfl 0 rfl ?_
  have hW := (xw7_I hσ43 hW)
  refine x_get (ci := 7) (k := 38) (v := .ref (a0 + 34)) dX7_takesOut_72 wF_X7_110 (Nat.le_of_ble_eq_true rfl) (Nat.le_of_ble_eq_true rfl) hW.1 (congrArg va_rf (w7r_34 hW)) ?_
  refine x_iload_n dX7_takesOut_75 rfl 1 rfl ?_
  obtain ⟨hv44, hw⟩ := hw
  refine x_ialdZ dX7_takesOut_76 (w7k_34 hW) (w7z_34 hW) hv44 ?_
  refine x_putIN (ci := 7) (k := 57) (f := 505) dX7_takesOut_77 wF_X7_318 (Nat.le_of_ble_eq_true rfl) (Nat.le_of_ble_eq_true rfl) hW.1 (Or.inl rfl) rfl (Or.inl rfl) (fun σ45 hσ45 => ?_)
  replace hw := hw σ45 hσ45
  refine x_aload_n dX7_takesOut_80 rfl 0 rfl ?_
  refine x_aload_n dX7_takesOut_81 rfl 0 rfl ?_
  have hW := (xw7_I hσ45 hW)
  refine x_get (ci := 7) (k := 39) (v := .ref (a0 + 35)) dX7_takesOut_82 wF_X7_113 (Nat.le_of_ble_eq_true rfl) (Nat.le_of_ble_eq_true rfl) hW.1 (congrArg va_rf (w7r_35 hW)) ?_
  refine x_iload_n dX7_takesOut_85 rfl 1 rfl ?_
  obtain ⟨hv46, hw⟩ := hw
  refine x_zaldZ dX7_takesOut_86 (w7k_35 hW) (w7z_35 hW) hv46 ?_
  obtain ⟨hz47, hw⟩ := hw
  refine x_putIN (ci := 7) (k := 58) (f := 506) dX7_takesOut_87 wF_X7_321 (Nat.le_of_ble_eq_true rfl) (Nat.le_of_ble_eq_true rfl) hW.1 (Or.inl rfl) rfl (Or.inr ⟨rfl, hz47⟩) (fun σ48 hσ48 => ?_)
  replace hw := hw σ48 hσ48
  refine x_aload_n dX7_takesOut_90 rfl 0 rfl ?_
  refine x_dup dX7_takesOut_91 rfl ?_
  have hW := (xw7_I hσ48 hW)
  refine x_get (ci := 7) (k := 30) (v := .int (xh_I σ48 478 a0)) dX7_takesOut_92 wF_X7_147 (Nat.le_of_ble_eq_true rfl) (Nat.le_of_ble_eq_true rfl) hW.1 rfl ?_
  refine x_iconst dX7_takesOut_95 cI_1 ?_
  refine x_isub dX7_takesOut_96 ?_
  refine x_putIN (ci := 7) (k := 30) (f := 478) dX7_takesOut_97 wF_X7_147 (Nat.le_of_ble_eq_true rfl) (Nat.le_of_ble_eq_true rfl) hW.1 (Or.inl rfl) rfl (Or.inl rfl) (fun σ49 hσ49 => ?_)
  replace hw := hw σ49 hσ49
  refine x_iload_n dX7_takesOut_100 rfl 1 rfl ?_
  refine x_istore_n [(2, .int l1), (0, .ref a0), (1, .int l1)] dX7_takesOut_101 rfl (Nat.le_of_ble_eq_true rfl) rfl ?_
  have hW := (xw7_I hσ49 hW)
  obtain ⟨m102, hw⟩ := hw
  exact x_sub [1, 0] rfl (xl_X7_takesOut_102 m102 _ _ hW hw)
