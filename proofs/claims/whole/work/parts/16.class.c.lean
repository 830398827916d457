-- PromiseWire.takeTurn(LPromiseWire$Thing;LPromiseWire$Message;)V
def wb_X6_takeTurn_74 (Q : xS → Prop) (σ : xS) (a0 : Nat) : Prop := Q σ
set_option maxRecDepth 100000 in
set_option maxHeartbeats 4000000 in
theorem xb_X6_takeTurn_74 {Q : xS → Prop} {σ : xS} {a0 : Nat}  (hW : xw6 σ a0)  (hw : wb_X6_takeTurn_74 Q σ a0) : xX M_X6_takeTurn 74 [(0, .ref a0)] [] σ (xqV (fun σ2 => xw6 σ2 a0 ∧ Q σ2)) := by
  unfold wb_X6_takeTurn_74 at hw
  exact x_vret dX6_takeTurn_74 rfl ⟨rfl, hW, hw⟩
def wp_X6_takeTurn (σ : xS) (a0 : Nat) (l1 : Nat) (l2 : Nat) (Q : xS → Prop) : Prop := ∀ σ1, σ1 = xs_I σ 392 a0 ((xh_I σ 392 a0) + 1) → (wp_X6_hear σ1 a0 l1 l2 (fun x2 σ3 => (x2 = 1 → wp_X6_hold σ3 a0 l1 l2 (fun σ5 => wb_X6_takeTurn_74 Q σ5 a0)) ∧ (¬ x2 = 1 → (x2 = 3 → xh_k σ3 l1 = 4 ∧ (wp_X6_send σ3 a0 l2 (xh_I σ3 193 l1) (fun σ8 => wb_X6_takeTurn_74 Q σ8 a0))) ∧ (¬ x2 = 3 → xh_k σ3 l1 = 4 ∧ (wp_X6_settle σ3 a0 l2 (xh_I σ3 193 l1) (fun σ10 => wb_X6_takeTurn_74 Q σ10 a0))))))
set_option maxRecDepth 100000 in
set_option maxHeartbeats 4000000 in
theorem ct_X6_takeTurn {σ : xS} {a0 : Nat}  {l1 : Nat} {l2 : Nat} {Q : xS → Prop} (hW : xw6 σ a0) (hw : wp_X6_takeTurn σ a0 l1 l2 Q) : xCt M_X6_takeTurn [.ref a0, .ref l1, .ref l2] σ (xqV (fun σ2 => xw6 σ2 a0 ∧ Q σ2)) := by
  refine xCt_ofL (lv := [(0, .ref a0), (1, .ref l1), (2, .ref l2)]) pn_X6 (Nat.le_of_ble_eq_true rfl) rfl ?_
  unfold wp_X6_takeTurn at hw
  refine x_aload_n dX6_takeTurn_0 rfl 0 rfl ?_
  refine x_dup dX6_takeTurn_1 rfl ?_
  refine x_get (ci := 6) (k := 8) (v := .int (xh_I σ 392 a0)) dX6_takeTurn_2 wF_X6_250 (Nat.le_of_ble_eq_true rfl) (Nat.le_of_ble_eq_true rfl) hW.1 rfl ?_
  refine x_iconst dX6_takeTurn_5 cI_1 ?_
  refine x_iadd dX6_takeTurn_6 ?_
  refine x_putIN (ci := 6) (k := 8) (f := 392) dX6_takeTurn_7 wF_X6_250 (Nat.le_of_ble_eq_true rfl) (Nat.le_of_ble_eq_true rfl) hW.1 (Or.inl rfl) rfl (Or.inl rfl) (fun σ1 hσ1 => ?_)
  replace hw := hw σ1 hσ1
  refine x_aload_n dX6_takeTurn_10 rfl 0 rfl ?_
  refine x_aload_n dX6_takeTurn_11 rfl 1 rfl ?_
  refine x_aload_n dX6_takeTurn_12 rfl 2 rfl ?_
  have hW := (xw6_I hσ1 hW)
  refine x_callV (M2 := M_X6_hear) (As := [.ref l1, .ref l2]) (st := []) (ci := 6) (Nat.le_of_ble_eq_true rfl) hW.1 rfl wM_X6_303 wI_X6_hear wS_X6_hear dX6_takeTurn_13 rfl ok_X6_hear ⟨(Nat.le_of_ble_eq_true rfl), (Nat.le_of_ble_eq_true rfl)⟩ (Nat.le_of_ble_eq_true rfl) (ct_X6_hear hW hw) (xqI.k (fun x2 σ3 hw2 => ?_))
  obtain ⟨hW, hw⟩ := hw2
  by_cases hc4 : x2 = 1
  · replace hw := hw.1 hc4
    refine x_lookup (off := 40) 56 dX6_takeTurn_16 (by decide) (by rw [hc4]; rfl) rfl ?_
    refine x_aload_n dX6_takeTurn_56 rfl 0 rfl ?_
    refine x_aload_n dX6_takeTurn_57 rfl 1 rfl ?_
    refine x_aload_n dX6_takeTurn_58 rfl 2 rfl ?_
    refine x_callV (M2 := M_X6_hold) (As := [.ref l1, .ref l2]) (st := []) (ci := 6) (Nat.le_of_ble_eq_true rfl) hW.1 rfl wM_X6_306 wI_X6_hold wS_X6_hold dX6_takeTurn_59 rfl ok_X6_hold ⟨(Nat.le_of_ble_eq_true rfl), (Nat.le_of_ble_eq_true rfl)⟩ (Nat.le_of_ble_eq_true rfl) (ct_X6_hold hW hw) (xqV.k (fun σ5 hw2 => ?_))
    obtain ⟨hW, hw⟩ := hw2
    refine x_goto 74 dX6_takeTurn_62 rfl ?_
    exact x_sub [0] rfl (xb_X6_takeTurn_74 hW hw)
  · replace hw := hw.2 hc4
    by_cases hc6 : x2 = 3
    · replace hw := hw.1 hc6
      refine x_lookup (off := 28) 44 dX6_takeTurn_16 (by decide) (by rw [hc6]; rfl) rfl ?_
      refine x_aload_n dX6_takeTurn_44 rfl 0 rfl ?_
      refine x_aload_n dX6_takeTurn_45 rfl 2 rfl ?_
      refine x_aload_n dX6_takeTurn_46 rfl 1 rfl ?_
      obtain ⟨hk7, hw⟩ := hw
      refine x_get (ci := 3) (k := 1) (v := .int (xh_I σ3 193 l1)) dX6_takeTurn_47 wF_X6_81 (Nat.le_of_ble_eq_true rfl) (Nat.le_of_ble_eq_true rfl) hk7 rfl ?_
      refine x_callV (M2 := M_X6_send) (As := [.ref l2, .int (xh_I σ3 193 l1)]) (st := []) (ci := 6) (Nat.le_of_ble_eq_true rfl) hW.1 rfl wM_X6_135 wI_X6_send wS_X6_send dX6_takeTurn_50 rfl ok_X6_send ⟨(Nat.le_of_ble_eq_true rfl), (Nat.le_of_ble_eq_true rfl)⟩ (Nat.le_of_ble_eq_true rfl) (ct_X6_send hW hw) (xqV.k (fun σ8 hw2 => ?_))
      obtain ⟨hW, hw⟩ := hw2
      refine x_goto 74 dX6_takeTurn_53 rfl ?_
      exact x_sub [0] rfl (xb_X6_takeTurn_74 hW hw)
    · replace hw := hw.2 hc6
      refine x_lookup (off := 49) 65 dX6_takeTurn_16 (by decide) (xlk2 (xne (by decide) hc4) (xne (by decide) hc6)) rfl ?_
      refine x_aload_n dX6_takeTurn_65 rfl 0 rfl ?_
      refine x_aload_n dX6_takeTurn_66 rfl 2 rfl ?_
      refine x_aload_n dX6_takeTurn_67 rfl 1 rfl ?_
      obtain ⟨hk9, hw⟩ := hw
      refine x_get (ci := 3) (k := 1) (v := .int (xh_I σ3 193 l1)) dX6_takeTurn_68 wF_X6_81 (Nat.le_of_ble_eq_true rfl) (Nat.le_of_ble_eq_true rfl) hk9 rfl ?_
      refine x_callV (M2 := M_X6_settle) (As := [.ref l2, .int (xh_I σ3 193 l1)]) (st := []) (ci := 6) (Nat.le_of_ble_eq_true rfl) hW.1 rfl wM_X6_310 wI_X6_settle wS_X6_settle dX6_takeTurn_71 rfl ok_X6_settle ⟨(Nat.le_of_ble_eq_true rfl), (Nat.le_of_ble_eq_true rfl)⟩ (Nat.le_of_ble_eq_true rfl) (ct_X6_settle hW hw) (xqV.k (fun σ10 hw2 => ?_))
      obtain ⟨hW, hw⟩ := hw2
      exact x_sub [0] rfl (xb_X6_takeTurn_74 hW hw)
-- PromiseWire.deliverFirst(LPromiseWire$Wire;)I
def wb_X6_deliverFirst_78 (Q : Int32 → xS → Prop) (σ : xS) (a0 : Nat) (l3 : Int32) : Prop := Q l3 σ
set_option maxRecDepth 100000 in
set_option maxHeartbeats 4000000 in
theorem xb_X6_deliverFirst_78 {Q : Int32 → xS → Prop} {σ : xS} {a0 : Nat}  {l3 : Int32} (hW : xw6 σ a0)  (hw : wb_X6_deliverFirst_78 Q σ a0 l3) : xX M_X6_deliverFirst 78 [(0, .ref a0), (3, .int l3)] [] σ (xqI (fun r σ2 => xw6 σ2 a0 ∧ Q r σ2)) := by
  unfold wb_X6_deliverFirst_78 at hw
  refine x_iload_n dX6_deliverFirst_78 rfl 1 rfl ?_
  exact x_iret dX6_deliverFirst_79 rfl ⟨l3, rfl, hW, hw⟩
def wp_X6_deliverFirst (σ : xS) (a0 : Nat) (l1 : Nat) (Q : Int32 → xS → Prop) : Prop := xh_k σ l1 = 6 ∧ ∃ r2, xh_R σ 322 l1 = some r2 ∧ (xh_k σ r2 = 1 ∧ wp_X0_take σ r2 (fun x5 σ6 => xw6 σ6 a0 ∧ ((x5 = none → Q (-9) σ6) ∧ (∀ a8, x5 = some a8 → xh_k σ6 a8 = 2 ∧ wp_X1_whatLetter σ6 a8 (fun x11 => ((xh_I σ6 71 a8) = 0 → ∀ σ14, σ14 = xs_R σ6 70 a8 none → ((xh_R σ14 69 a8 = none → (xh_R σ14 68 a8 = none → wb_X6_deliverFirst_78 Q σ14 a0 x11) ∧ (∀ a19, xh_R σ14 68 a8 = some a19 → wp_X6_takeTurn σ14 a0 a19 a8 (fun σ21 => wb_X6_deliverFirst_78 Q σ21 a0 x11))) ∧ (∀ a16, xh_R σ14 69 a8 = some a16 → wp_X6_reachPromise σ14 a0 a8 a16 (fun σ22 => wb_X6_deliverFirst_78 Q σ22 a0 x11)))) ∧ (¬ (xh_I σ6 71 a8) = 0 → xh_k σ6 l1 = 6 ∧ (wp_X6_receiveAnswer σ6 a0 a8 (xh_I σ6 321 l1) (fun σ24 => Q x11 σ24))))))))
set_option maxRecDepth 100000 in
set_option maxHeartbeats 4000000 in
theorem ct_X6_deliverFirst {σ : xS} {a0 : Nat}  {l1 : Nat} {Q : Int32 → xS → Prop} (hW : xw6 σ a0) (hw : wp_X6_deliverFirst σ a0 l1 Q) : xCt M_X6_deliverFirst [.ref a0, .ref l1] σ (xqI (fun r σ2 => xw6 σ2 a0 ∧ Q r σ2)) := by
  refine xCt_ofL (lv := [(0, .ref a0), (1, .ref l1)]) pn_X6 (Nat.le_of_ble_eq_true rfl) rfl ?_
  unfold wp_X6_deliverFirst at hw
  refine x_aload_n dX6_deliverFirst_0 rfl 1 rfl ?_
  obtain ⟨hk1, hw⟩ := hw
  obtain ⟨r2, hr3, hw⟩ := hw
  refine x_get (ci := 5) (k := 2) (v := .ref r2) dX6_deliverFirst_1 wF_X6_200 (Nat.le_of_ble_eq_true rfl) (Nat.le_of_ble_eq_true rfl) hk1 (congrArg va_rf hr3) ?_
  obtain ⟨hk4, hw⟩ := hw
  refine x_callV (M2 := M_X0_take) (As := []) (st := []) (ci := 0) (Nat.le_of_ble_eq_true rfl) hk4 rfl wM_X6_320 wI_X0_take wS_X0_take dX6_deliverFirst_4 rfl ok_X0_take ⟨(Nat.le_of_ble_eq_true rfl), (Nat.le_of_ble_eq_true rfl)⟩ (Nat.le_of_ble_eq_true rfl) (ct_X0_take hk4 hw) (xqR.k (fun x5 σ6 hw2 => ?_))
  obtain ⟨hW, hw⟩ := hw2
  refine x_astore_nQ [(2, va_rf x5), (0, .ref a0), (1, .ref l1)] dX6_deliverFirst_7 rfl (Nat.le_of_ble_eq_true rfl) rfl ?_
  refine x_aload_nQ dX6_deliverFirst_8 rfl 0 rfl ?_
  refine x_ifnonnull 15 dX6_deliverFirst_9 rfl (fun hn7 => ?_) (fun a8 hs9 => ?_)
  · replace hw := hw.1 hn7
    refine x_bipush dX6_deliverFirst_12 cB_m9 ?_
    exact x_iret dX6_deliverFirst_14 rfl ⟨(-9), rfl, hW, hw⟩
  · replace hw := hw.2 a8 hs9
    refine x_lvS 0 (lv2 := [(2, .ref a8), (0, .ref a0), (1, .ref l1)]) rfl hs9 rfl ?_
    refine x_aload_n dX6_deliverFirst_15 rfl 0 rfl ?_
    obtain ⟨hk10, hw⟩ := hw
    refine x_callV (M2 := M_X1_whatLetter) (As := []) (st := []) (ci := 1) (Nat.le_of_ble_eq_true rfl) hk10 rfl wM_X6_210 wI_X1_whatLetter wS_X1_whatLetter dX6_deliverFirst_16 rfl ok_X1_whatLetter ⟨(Nat.le_of_ble_eq_true rfl), (Nat.le_of_ble_eq_true rfl)⟩ (Nat.le_of_ble_eq_true rfl) (ct_X1_whatLetter hk10 hw) (xqI.k (fun x11 τ12 hw2 => ?_))
    obtain ⟨he, hw⟩ := hw2
    subst he
    refine x_istore_n [(3, .int x11), (2, .ref a8), (0, .ref a0), (1, .ref l1)] dX6_deliverFirst_19 rfl (Nat.le_of_ble_eq_true rfl) rfl ?_
    refine x_aload_n dX6_deliverFirst_20 rfl 1 rfl ?_
    refine x_get (ci := 1) (k := 7) (v := .int (xh_I σ6 71 a8)) dX6_deliverFirst_21 wF_X6_213 (Nat.le_of_ble_eq_true rfl) (Nat.le_of_ble_eq_true rfl) hk10 rfl ?_
    refine x_if_eq 38 dX6_deliverFirst_24 rfl (fun hc13 => ?_) (fun hc13 => ?_)
    · replace hw := hw.1 hc13
      refine x_aload_n dX6_deliverFirst_38 rfl 1 rfl ?_
      refine x_null dX6_deliverFirst_39 ?_
      refine x_putRN (r := none) (ci := 1) (k := 6) (f := 70) dX6_deliverFirst_40 wF_X6_290 (Nat.le_of_ble_eq_true rfl) (Nat.le_of_ble_eq_true rfl) hk10 (Or.inl rfl) rfl rfl (fun σ14 hσ14 => ?_)
      replace hw := hw σ14 hσ14
      refine x_aload_n dX6_deliverFirst_43 rfl 1 rfl ?_
      refine x_get (ci := 1) (k := 5) (v := va_rf (xh_R σ14 69 a8)) dX6_deliverFirst_44 wF_X6_121 (Nat.le_of_ble_eq_true rfl) (Nat.le_of_ble_eq_true rfl) (xk_R hσ14 hk10) rfl ?_
      refine x_ifnull 62 dX6_deliverFirst_47 rfl (fun hn15 => ?_) (fun a16 hs17 => ?_)
      · replace hw := hw.1 hn15
        refine x_aload_n dX6_deliverFirst_62 rfl 1 rfl ?_
        refine x_get (ci := 1) (k := 4) (v := va_rf (xh_R σ14 68 a8)) dX6_deliverFirst_63 wF_X6_118 (Nat.le_of_ble_eq_true rfl) (Nat.le_of_ble_eq_true rfl) (xk_R hσ14 hk10) rfl ?_
        refine x_ifnull 78 dX6_deliverFirst_66 rfl (fun hn18 => ?_) (fun a19 hs20 => ?_)
        · replace hw := hw.1 hn18
          have hW := (xw6_R (by decide) hσ14 hW)
          exact x_sub [2, 0] rfl (xb_X6_deliverFirst_78 hW hw)
        · replace hw := hw.2 a19 hs20
          refine x_aload_n dX6_deliverFirst_69 rfl 2 rfl ?_
          refine x_aload_n dX6_deliverFirst_70 rfl 1 rfl ?_
          refine x_get (ci := 1) (k := 4) (v := .ref a19) dX6_deliverFirst_71 wF_X6_118 (Nat.le_of_ble_eq_true rfl) (Nat.le_of_ble_eq_true rfl) (xk_R hσ14 hk10) (congrArg va_rf hs20) ?_
          refine x_aload_n dX6_deliverFirst_74 rfl 1 rfl ?_
          have hW := (xw6_R (by decide) hσ14 hW)
          refine x_callV (M2 := M_X6_takeTurn) (As := [.ref a19, .ref a8]) (st := []) (ci := 6) (Nat.le_of_ble_eq_true rfl) hW.1 rfl wM_X6_372 wI_X6_takeTurn wS_X6_takeTurn dX6_deliverFirst_75 rfl ok_X6_takeTurn ⟨(Nat.le_of_ble_eq_true rfl), (Nat.le_of_ble_eq_true rfl)⟩ (Nat.le_of_ble_eq_true rfl) (ct_X6_takeTurn hW hw) (xqV.k (fun σ21 hw2 => ?_))
          obtain ⟨hW, hw⟩ := hw2
          exact x_sub [2, 0] rfl (xb_X6_deliverFirst_78 hW hw)
      · replace hw := hw.2 a16 hs17
        refine x_aload_n dX6_deliverFirst_50 rfl 2 rfl ?_
        refine x_aload_n dX6_deliverFirst_51 rfl 1 rfl ?_
        refine x_aload_n dX6_deliverFirst_52 rfl 1 rfl ?_
        refine x_get (ci := 1) (k := 5) (v := .ref a16) dX6_deliverFirst_53 wF_X6_121 (Nat.le_of_ble_eq_true rfl) (Nat.le_of_ble_eq_true rfl) (xk_R hσ14 hk10) (congrArg va_rf hs17) ?_
        have hW := (xw6_R (by decide) hσ14 hW)
        refine x_callV (M2 := M_X6_reachPromise) (As := [.ref a8, .ref a16]) (st := []) (ci := 6) (Nat.le_of_ble_eq_true rfl) hW.1 rfl wM_X6_369 wI_X6_reachPromise wS_X6_reachPromise dX6_deliverFirst_56 rfl ok_X6_reachPromise ⟨(Nat.le_of_ble_eq_true rfl), (Nat.le_of_ble_eq_true rfl)⟩ (Nat.le_of_ble_eq_true rfl) (ct_X6_reachPromise hW hw) (xqV.k (fun σ22 hw2 => ?_))
        obtain ⟨hW, hw⟩ := hw2
        refine x_goto 78 dX6_deliverFirst_59 rfl ?_
        exact x_sub [2, 0] rfl (xb_X6_deliverFirst_78 hW hw)
    · replace hw := hw.2 hc13
      refine x_aload_n dX6_deliverFirst_27 rfl 2 rfl ?_
      refine x_aload_n dX6_deliverFirst_28 rfl 1 rfl ?_
      refine x_aload_n dX6_deliverFirst_29 rfl 3 rfl ?_
      obtain ⟨hk23, hw⟩ := hw
      refine x_get (ci := 5) (k := 1) (v := .int (xh_I σ6 321 l1)) dX6_deliverFirst_30 wF_X6_363 (Nat.le_of_ble_eq_true rfl) (Nat.le_of_ble_eq_true rfl) hk23 rfl ?_
      refine x_callV (M2 := M_X6_receiveAnswer) (As := [.ref a8, .int (xh_I σ6 321 l1)]) (st := []) (ci := 6) (Nat.le_of_ble_eq_true rfl) hW.1 rfl wM_X6_366 wI_X6_receiveAnswer wS_X6_receiveAnswer dX6_deliverFirst_33 rfl ok_X6_receiveAnswer ⟨(Nat.le_of_ble_eq_true rfl), (Nat.le_of_ble_eq_true rfl)⟩ (Nat.le_of_ble_eq_true rfl) (ct_X6_receiveAnswer hW hw) (xqV.k (fun σ24 hw2 => ?_))
      obtain ⟨hW, hw⟩ := hw2
      refine x_iload_n dX6_deliverFirst_36 rfl 0 rfl ?_
      exact x_iret dX6_deliverFirst_37 rfl ⟨x11, rfl, hW, hw⟩
-- PromiseWire.deliver(II)I
def wp_X6_deliver (σ : xS) (a0 : Nat) (l1 : Int32) (l2 : Int32) (Q : Int32 → xS → Prop) : Prop := wp_X6_wireAt σ a0 l1 l2 (fun x1 => (x1 = none → Q (-1) σ) ∧ (∀ a4, x1 = some a4 → wp_X6_deliverFirst σ a0 a4 (fun x6 σ7 => wp_X6_doAll σ7 a0 (fun σ8 => Q x6 σ8))))
set_option maxRecDepth 100000 in
set_option maxHeartbeats 4000000 in
theorem ct_X6_deliver {σ : xS} {a0 : Nat}  {l1 : Int32} {l2 : Int32} {Q : Int32 → xS → Prop} (hW : xw6 σ a0) (hw : wp_X6_deliver σ a0 l1 l2 Q) : xCt M_X6_deliver [.ref a0, .int l1, .int l2] σ (xqI (fun r σ2 => xw6 σ2 a0 ∧ Q r σ2)) := by
  refine xCt_ofL (lv := [(0, .ref a0), (1, .int l1), (2, .int l2)]) pn_X6 (Nat.le_of_ble_eq_true rfl) rfl ?_
  unfold wp_X6_deliver at hw
  refine x_aload_n dX6_deliver_0 rfl 0 rfl ?_
  refine x_iload_n dX6_deliver_1 rfl 1 rfl ?_
  refine x_iload_n dX6_deliver_2 rfl 2 rfl ?_
  refine x_callV (M2 := M_X6_wireAt) (As := [.int l1, .int l2]) (st := []) (ci := 6) (Nat.le_of_ble_eq_true rfl) hW.1 rfl wM_X6_176 wI_X6_wireAt wS_X6_wireAt dX6_deliver_3 rfl ok_X6_wireAt ⟨(Nat.le_of_ble_eq_true rfl), (Nat.le_of_ble_eq_true rfl)⟩ (Nat.le_of_ble_eq_true rfl) (ct_X6_wireAt hW hw) (xqR.k (fun x1 τ2 hw2 => ?_))
  obtain ⟨he, hw⟩ := hw2
  subst he
  refine x_astore_nQ [(3, va_rf x1), (0, .ref a0), (1, .int l1), (2, .int l2)] dX6_deliver_6 rfl (Nat.le_of_ble_eq_true rfl) rfl ?_
  refine x_aload_nQ dX6_deliver_7 rfl 0 rfl ?_
  refine x_ifnonnull 13 dX6_deliver_8 rfl (fun hn3 => ?_) (fun a4 hs5 => ?_)
  · replace hw := hw.1 hn3
    refine x_iconst dX6_deliver_11 cI_m1 ?_
    exact x_iret dX6_deliver_12 rfl ⟨(-1), rfl, hW, hw⟩
  · replace hw := hw.2 a4 hs5
    refine x_lvS 0 (lv2 := [(3, .ref a4), (0, .ref a0), (1, .int l1), (2, .int l2)]) rfl hs5 rfl ?_
    refine x_aload_n dX6_deliver_13 rfl 1 rfl ?_
    refine x_aload_n dX6_deliver_14 rfl 0 rfl ?_
    refine x_callV (M2 := M_X6_deliverFirst) (As := [.ref a4]) (st := []) (ci := 6) (Nat.le_of_ble_eq_true rfl) hW.1 rfl wM_X6_180 wI_X6_deliverFirst wS_X6_deliverFirst dX6_deliver_15 rfl ok_X6_deliverFirst ⟨(Nat.le_of_ble_eq_true rfl), (Nat.le_of_ble_eq_true rfl)⟩ (Nat.le_of_ble_eq_true rfl) (ct_X6_deliverFirst hW hw) (xqI.k (fun x6 σ7 hw2 => ?_))
    obtain ⟨hW, hw⟩ := hw2
    refine x_istore [(4, .int x6), (3, .ref a4), (0, .ref a0), (1, .int l1), (2, .int l2)] dX6_deliver_18 (Nat.le_of_ble_eq_true rfl) rfl ?_
    refine x_aload_n dX6_deliver_20 rfl 2 rfl ?_
    refine x_callV (M2 := M_X6_doAll) (As := []) (st := []) (ci := 6) (Nat.le_of_ble_eq_true rfl) hW.1 rfl wM_X6_78 wI_X6_doAll wS_X6_doAll dX6_deliver_21 rfl ok_X6_doAll ⟨(Nat.le_of_ble_eq_true rfl), (Nat.le_of_ble_eq_true rfl)⟩ (Nat.le_of_ble_eq_true rfl) (ct_X6_doAll hW hw) (xqV.k (fun σ8 hw2 => ?_))
    obtain ⟨hW, hw⟩ := hw2
    refine x_iload dX6_deliver_24 0 rfl ?_
    exact x_iret dX6_deliver_26 rfl ⟨x6, rfl, hW, hw⟩
-- PromiseWire.firstWireWithLetters()LPromiseWire$Wire;
def wb_X6_firstWireWithLetters_34 (Q : Option Nat → Prop) (K2 : Int32 → Prop) (σ : xS) (a0 : Nat) (l1 : Int32) : Prop := K2 (l1 + 1)
set_option maxRecDepth 100000 in
set_option maxHeartbeats 4000000 in
theorem xb_X6_firstWireWithLetters_34 {Q : Option Nat → Prop} {K2 : Int32 → Prop} {σ : xS} {a0 : Nat}  {l1 : Int32} (hW : xw6 σ a0)  (hK2 : ∀ (l1 : Int32), K2 l1 → xX M_X6_firstWireWithLetters 2 [(0, .ref a0), (1, .int l1)] [] σ (xqR (fun r σ2 => σ = σ2 ∧ Q r ))) (hw : wb_X6_firstWireWithLetters_34 Q K2 σ a0 l1) : xX M_X6_firstWireWithLetters 34 [(0, .ref a0), (1, .int l1)] [] σ (xqR (fun r σ2 => σ = σ2 ∧ Q r )) := by
  unfold wb_X6_firstWireWithLetters_34 at hw
  refine x_iinc [(1, .int (l1 + 1)), (0, .ref a0)] dX6_firstWireWithLetters_34 1 rfl (congrArg _ cI_1) (Nat.le_of_ble_eq_true rfl) rfl ?_
  refine x_goto 2 dX6_firstWireWithLetters_37 rfl ?_
  exact x_sub [1, 0] rfl (hK2 _ hw)
def wb_X6_firstWireWithLetters_2 (Q : Option Nat → Prop) (σ : xS) (a0 : Nat) : Nat → Int32 → Prop
  | 0, _ => False
  | n + 1, l1 => ((16 : Int32) ≤ l1 → Q none) ∧ (¬ (16 : Int32) ≤ l1 → vp_in l1 16 ∧ ((xh_q σ (a0 + 4) l1.toNatClampNeg = none → wb_X6_firstWireWithLetters_34 Q (fun l1 => wb_X6_firstWireWithLetters_2 Q σ a0 n l1) σ a0 l1) ∧ (∀ a4, xh_q σ (a0 + 4) l1.toNatClampNeg = some a4 → xh_k σ a4 = 6 ∧ ∃ r7, xh_R σ 322 a4 = some r7 ∧ (xh_k σ r7 = 1 ∧ (((xh_I σ 2 r7) ≤ 0 → wb_X6_firstWireWithLetters_34 Q (fun l1 => wb_X6_firstWireWithLetters_2 Q σ a0 n l1) σ a0 l1) ∧ (¬ (xh_I σ 2 r7) ≤ 0 → Q (some a4)))))))
set_option maxRecDepth 100000 in
set_option maxHeartbeats 4000000 in
theorem xl_X6_firstWireWithLetters_2 {Q : Option Nat → Prop} {σ : xS} {a0 : Nat}  (hW : xw6 σ a0)  : ∀ (n : Nat) (l1 : Int32), wb_X6_firstWireWithLetters_2 Q σ a0 n l1 → xX M_X6_firstWireWithLetters 2 [(0, .ref a0), (1, .int l1)] [] σ (xqR (fun r σ2 => σ = σ2 ∧ Q r )) := by
  intro n
  induction n with
  | zero => intro l1 hw; exact False.elim hw
  | succ n ih =>
    intro l1 hw
    unfold wb_X6_firstWireWithLetters_2 at hw
    refine x_iload_n dX6_firstWireWithLetters_2 rfl 1 rfl ?_
    refine x_aload_n dX6_firstWireWithLetters_3 rfl 0 rfl ?_
    refine x_get (ci := 6) (k := 3) (v := .ref (a0 + 4)) dX6_firstWireWithLetters_4 wF_X6_29 (Nat.le_of_ble_eq_true rfl) (Nat.le_of_ble_eq_true rfl) hW.1 (congrArg va_rf (w6r_4 hW)) ?_
    refine x_alenZ (t := 5) (v := 16) dX6_firstWireWithLetters_7 (w6k_4 hW) (Nat.le_of_ble_eq_true rfl) (w6z_4 hW) rfl ?_
    refine x_icmp_ge 40 dX6_firstWireWithLetters_8 rfl (fun hc1 => ?_) (fun hc1 => ?_)
    · replace hw := hw.1 hc1
      refine x_null dX6_firstWireWithLetters_40 ?_
      exact x_aret (r := none) dX6_firstWireWithLetters_41 rfl ⟨none, rfl, rfl, hw⟩
    · replace hw := hw.2 hc1
      refine x_aload_n dX6_firstWireWithLetters_11 rfl 0 rfl ?_
      refine x_get (ci := 6) (k := 3) (v := .ref (a0 + 4)) dX6_firstWireWithLetters_12 wF_X6_29 (Nat.le_of_ble_eq_true rfl) (Nat.le_of_ble_eq_true rfl) hW.1 (congrArg va_rf (w6r_4 hW)) ?_
      refine x_iload_n dX6_firstWireWithLetters_15 rfl 1 rfl ?_
      obtain ⟨hv2, hw⟩ := hw
      refine x_aaldZ (t := 3) dX6_firstWireWithLetters_16 (w6k_4 hW) (Nat.le_of_ble_eq_true rfl) (w6z_4 hW) hv2 ?_
      refine x_astore_nQ [(2, va_rf (xh_q σ (a0 + 4) l1.toNatClampNeg)), (0, .ref a0), (1, .int l1)] dX6_firstWireWithLetters_17 rfl (Nat.le_of_ble_eq_true rfl) rfl ?_
      refine x_aload_nQ dX6_firstWireWithLetters_18 rfl 0 rfl ?_
      refine x_ifnull 34 dX6_firstWireWithLetters_19 rfl (fun hn3 => ?_) (fun a4 hs5 => ?_)
      · replace hw := hw.1 hn3
        exact x_sub [1, 2] rfl (xb_X6_firstWireWithLetters_34 hW ih hw)
      · replace hw := hw.2 a4 hs5
        refine x_lvS 0 (lv2 := [(2, .ref a4), (0, .ref a0), (1, .int l1)]) rfl hs5 rfl ?_
        refine x_aload_n dX6_firstWireWithLetters_22 rfl 0 rfl ?_
        obtain ⟨hk6, hw⟩ := hw
        obtain ⟨r7, hr8, hw⟩ := hw
        refine x_get (ci := 5) (k := 2) (v := .ref r7) dX6_firstWireWithLetters_23 wF_X6_200 (Nat.le_of_ble_eq_true rfl) (Nat.le_of_ble_eq_true rfl) hk6 (congrArg va_rf hr8) ?_
        obtain ⟨hk9, hw⟩ := hw
        refine x_get (ci := 0) (k := 2) (v := .int (xh_I σ 2 r7)) dX6_firstWireWithLetters_26 wF_X6_100 (Nat.le_of_ble_eq_true rfl) (Nat.le_of_ble_eq_true rfl) hk9 rfl ?_
        refine x_if_le 34 dX6_firstWireWithLetters_29 rfl (fun hc10 => ?_) (fun hc10 => ?_)
        · replace hw := hw.1 hc10
          exact x_sub [1, 2] rfl (xb_X6_firstWireWithLetters_34 hW ih hw)
        · replace hw := hw.2 hc10
          refine x_aload_n dX6_firstWireWithLetters_32 rfl 0 rfl ?_
          exact x_aret (r := (some a4)) dX6_firstWireWithLetters_33 rfl ⟨(some a4), rfl, rfl, hw⟩
def wp_X6_firstWireWithLetters (σ : xS) (a0 : Nat) (Q : Option Nat → Prop) : Prop := ∃ m2, wb_X6_firstWireWithLetters_2 Q σ a0 m2 0
set_option maxRecDepth 100000 in
set_option maxHeartbeats 4000000 in
theorem ct_X6_firstWireWithLetters {σ : xS} {a0 : Nat}  {Q : Option Nat → Prop} (hW : xw6 σ a0) (hw : wp_X6_firstWireWithLetters σ a0 Q) : xCt M_X6_firstWireWithLetters [.ref a0] σ (xqR (fun r σ2 => σ = σ2 ∧ Q r )) := by
  refine xCt_ofL (lv := [(0, .ref a0)]) pn_X6 (Nat.le_of_ble_eq_true rfl) rfl ?_
  unfold wp_X6_firstWireWithLetters at hw
  refine x_iconst dX6_firstWireWithLetters_0 cI_0 ?_
  refine x_istore_n [(1, .int 0), (0, .ref a0)] dX6_firstWireWithLetters_1 rfl (Nat.le_of_ble_eq_true rfl) rfl ?_
  obtain ⟨m2, hw⟩ := hw
  exact x_sub [1, 0] rfl (xl_X6_firstWireWithLetters_2 hW m2 _ hw)
-- PromiseWire.flow(I)I
def wb_X6_flow_15 (Q : Int32 → xS → Prop) (a0 : Nat) : Nat → xS → Int32 → Int32 → Prop
  | 0, _, _, _ => False
  | n + 1, σ, l1, l2 => (l1 ≤ l2 → Q l1 σ) ∧ (¬ l1 ≤ l2 → wp_X6_firstWireWithLetters σ a0 (fun x2 => (x2 = none → Q l2 σ) ∧ (∀ a5, x2 = some a5 → wp_X6_deliverFirst σ a0 a5 (fun x7 σ8 => wp_X6_doAll σ8 a0 (fun σ9 => wb_X6_flow_15 Q a0 n σ9 l1 (l2 + 1))))))
set_option maxRecDepth 100000 in
set_option maxHeartbeats 4000000 in
theorem xl_X6_flow_15 {Q : Int32 → xS → Prop} {a0 : Nat}  : ∀ (n : Nat) (σ : xS) (l1 : Int32) (l2 : Int32), xw6 σ a0 → wb_X6_flow_15 Q a0 n σ l1 l2 → xX M_X6_flow 15 [(0, .ref a0), (1, .int l1), (2, .int l2)] [] σ (xqI (fun r σ2 => xw6 σ2 a0 ∧ Q r σ2)) := by
  intro n
  induction n with
  | zero => intro σ l1 l2 hW hw; exact False.elim hw
  | succ n ih =>
    intro σ l1 l2 hW hw
    unfold wb_X6_flow_15 at hw
    refine x_iload_n dX6_flow_15 rfl 2 rfl ?_
    refine x_iload_n dX6_flow_16 rfl 1 rfl ?_
    refine x_icmp_ge 47 dX6_flow_17 rfl (fun hc1 => ?_) (fun hc1 => ?_)
    · replace hw := hw.1 hc1
      refine x_iload_n dX6_flow_47 rfl 1 rfl ?_
      exact x_iret dX6_flow_48 rfl ⟨l1, rfl, hW, hw⟩
    · replace hw := hw.2 hc1
      refine x_aload_n dX6_flow_20 rfl 0 rfl ?_
      refine x_callV (M2 := M_X6_firstWireWithLetters) (As := []) (st := []) (ci := 6) (Nat.le_of_ble_eq_true rfl) hW.1 rfl wM_X6_184 wI_X6_firstWireWithLetters wS_X6_firstWireWithLetters dX6_flow_21 rfl ok_X6_firstWireWithLetters ⟨(Nat.le_of_ble_eq_true rfl), (Nat.le_of_ble_eq_true rfl)⟩ (Nat.le_of_ble_eq_true rfl) (ct_X6_firstWireWithLetters hW hw) (xqR.k (fun x2 τ3 hw2 => ?_))
      obtain ⟨he, hw⟩ := hw2
      subst he
      refine x_astore_nQ [(3, va_rf x2), (0, .ref a0), (1, .int l1), (2, .int l2)] dX6_flow_24 rfl (Nat.le_of_ble_eq_true rfl) rfl ?_
      refine x_aload_nQ dX6_flow_25 rfl 0 rfl ?_
      refine x_ifnonnull 31 dX6_flow_26 rfl (fun hn4 => ?_) (fun a5 hs6 => ?_)
      · replace hw := hw.1 hn4
        refine x_iload_n dX6_flow_29 rfl 3 rfl ?_
        exact x_iret dX6_flow_30 rfl ⟨l2, rfl, hW, hw⟩
      · replace hw := hw.2 a5 hs6
        refine x_lvS 0 (lv2 := [(3, .ref a5), (0, .ref a0), (1, .int l1), (2, .int l2)]) rfl hs6 rfl ?_
        refine x_aload_n dX6_flow_31 rfl 1 rfl ?_
        refine x_aload_n dX6_flow_32 rfl 0 rfl ?_
        refine x_callV (M2 := M_X6_deliverFirst) (As := [.ref a5]) (st := []) (ci := 6) (Nat.le_of_ble_eq_true rfl) hW.1 rfl wM_X6_180 wI_X6_deliverFirst wS_X6_deliverFirst dX6_flow_33 rfl ok_X6_deliverFirst ⟨(Nat.le_of_ble_eq_true rfl), (Nat.le_of_ble_eq_true rfl)⟩ (Nat.le_of_ble_eq_true rfl) (ct_X6_deliverFirst hW hw) (xqI.k (fun x7 σ8 hw2 => ?_))
        obtain ⟨hW, hw⟩ := hw2
        refine x_pop dX6_flow_36 rfl ?_
        refine x_aload_n dX6_flow_37 rfl 1 rfl ?_
        refine x_callV (M2 := M_X6_doAll) (As := []) (st := []) (ci := 6) (Nat.le_of_ble_eq_true rfl) hW.1 rfl wM_X6_78 wI_X6_doAll wS_X6_doAll dX6_flow_38 rfl ok_X6_doAll ⟨(Nat.le_of_ble_eq_true rfl), (Nat.le_of_ble_eq_true rfl)⟩ (Nat.le_of_ble_eq_true rfl) (ct_X6_doAll hW hw) (xqV.k (fun σ9 hw2 => ?_))
        obtain ⟨hW, hw⟩ := hw2
        refine x_iinc [(2, .int (l2 + 1)), (3, .ref a5), (0, .ref a0), (1, .int l1)] dX6_flow_41 3 rfl (congrArg _ cI_1) (Nat.le_of_ble_eq_true rfl) rfl ?_
        refine x_goto 15 dX6_flow_44 rfl ?_
        exact x_sub [2, 3, 0] rfl (ih _ _ _ hW hw)
def wb_X6_flow_11 (Q : Int32 → xS → Prop) (σ : xS) (a0 : Nat) : Prop := Q (-1) σ
set_option maxRecDepth 100000 in
set_option maxHeartbeats 4000000 in
theorem xb_X6_flow_11 {Q : Int32 → xS → Prop} {σ : xS} {a0 : Nat}  (hW : xw6 σ a0)  (hw : wb_X6_flow_11 Q σ a0) : xX M_X6_flow 11 [(0, .ref a0)] [] σ (xqI (fun r σ2 => xw6 σ2 a0 ∧ Q r σ2)) := by
  unfold wb_X6_flow_11 at hw
  refine x_iconst dX6_flow_11 cI_m1 ?_
  exact x_iret dX6_flow_12 rfl ⟨(-1), rfl, hW, hw⟩
def wp_X6_flow (σ : xS) (a0 : Nat) (l1 : Int32) (Q : Int32 → xS → Prop) : Prop := (l1 < 1 → wb_X6_flow_11 Q σ a0) ∧ (¬ l1 < 1 → (l1 ≤ 100 → ∃ m15, wb_X6_flow_15 Q a0 m15 σ l1 0) ∧ (¬ l1 ≤ 100 → wb_X6_flow_11 Q σ a0))
set_option maxRecDepth 100000 in
set_option maxHeartbeats 4000000 in
theorem ct_X6_flow {σ : xS} {a0 : Nat}  {l1 : Int32} {Q : Int32 → xS → Prop} (hW : xw6 σ a0) (hw : wp_X6_flow σ a0 l1 Q) : xCt M_X6_flow [.ref a0, .int l1] σ (xqI (fun r σ2 => xw6 σ2 a0 ∧ Q r σ2)) := by
  refine xCt_ofL (lv := [(0, .ref a0), (1, .int l1)]) pn_X6 (Nat.le_of_ble_eq_true rfl) rfl ?_
  unfold wp_X6_flow at hw
  refine x_iload_n dX6_flow_0 rfl 1 rfl ?_
  refine x_iconst dX6_flow_1 cI_1 ?_
  refine x_icmp_lt 11 dX6_flow_2 rfl (fun hc10 => ?_) (fun hc10 => ?_)
  · replace hw := hw.1 hc10
    exact x_sub [0] rfl (xb_X6_flow_11 hW hw)
  · replace hw := hw.2 hc10
    refine x_iload_n dX6_flow_5 rfl 1 rfl ?_
    refine x_bipush dX6_flow_6 cB_100 ?_
    refine x_icmp_le 13 dX6_flow_8 rfl (fun hc11 => ?_) (fun hc11 => ?_)
    · replace hw := hw.1 hc11
      refine x_iconst dX6_flow_13 cI_0 ?_
      refine x_istore_n [(2, .int 0), (0, .ref a0), (1, .int l1)] dX6_flow_14 rfl (Nat.le_of_ble_eq_true rfl) rfl ?_
      obtain ⟨m15, hw⟩ := hw
      exact x_sub [1, 2, 0] rfl (xl_X6_flow_15 m15 _ _ _ hW hw)
    · replace hw := hw.2 hc11
      exact x_sub [0] rfl (xb_X6_flow_11 hW hw)
-- PromiseWire.loseFirst(LPromiseWire$Wire;)V
def wb_X6_loseFirst_45 (Q : xS → Prop) (σ : xS) (a0 : Nat) : Prop := Q σ
set_option maxRecDepth 100000 in
set_option maxHeartbeats 4000000 in
theorem xb_X6_loseFirst_45 {Q : xS → Prop} {σ : xS} {a0 : Nat}  (hW : xw6 σ a0)  (hw : wb_X6_loseFirst_45 Q σ a0) : xX M_X6_loseFirst 45 [(0, .ref a0)] [] σ (xqV (fun σ2 => xw6 σ2 a0 ∧ Q σ2)) := by
  unfold wb_X6_loseFirst_45 at hw
  exact x_vret dX6_loseFirst_45 rfl ⟨rfl, hW, hw⟩
def wp_X6_loseFirst (σ : xS) (a0 : Nat) (l1 : Nat) (Q : xS → Prop) : Prop := xh_k σ l1 = 6 ∧ ∃ r2, xh_R σ 322 l1 = some r2 ∧ (xh_k σ r2 = 1 ∧ wp_X0_take σ r2 (fun x5 σ6 => xw6 σ6 a0 ∧ ((x5 = none → Q σ6) ∧ (∀ a8, x5 = some a8 → xh_k σ6 a8 = 2 ∧ wp_X1_breakByCut σ6 a8 (fun σ11 => xw6 σ11 a0 ∧ (xh_k σ11 a8 = 2 ∧ (((xh_I σ11 71 a8) = 0 → xh_k σ11 l1 = 6 ∧ (wp_X6_settle σ11 a0 a8 (xh_I σ11 320 l1) (fun σ15 => wb_X6_loseFirst_45 Q σ15 a0))) ∧ (¬ (xh_I σ11 71 a8) = 0 → xh_k σ11 l1 = 6 ∧ (wp_X6_receiveAnswer σ11 a0 a8 (xh_I σ11 321 l1) (fun σ17 => wb_X6_loseFirst_45 Q σ17 a0))))))))))
set_option maxRecDepth 100000 in
set_option maxHeartbeats 4000000 in
theorem ct_X6_loseFirst {σ : xS} {a0 : Nat}  {l1 : Nat} {Q : xS → Prop} (hW : xw6 σ a0) (hw : wp_X6_loseFirst σ a0 l1 Q) : xCt M_X6_loseFirst [.ref a0, .ref l1] σ (xqV (fun σ2 => xw6 σ2 a0 ∧ Q σ2)) := by
  refine xCt_ofL (lv := [(0, .ref a0), (1, .ref l1)]) pn_X6 (Nat.le_of_ble_eq_true rfl) rfl ?_
  unfold wp_X6_loseFirst at hw
  refine x_aload_n dX6_loseFirst_0 rfl 1 rfl ?_
  obtain ⟨hk1, hw⟩ := hw
  obtain ⟨r2, hr3, hw⟩ := hw
  refine x_get (ci := 5) (k := 2) (v := .ref r2) dX6_loseFirst_1 wF_X6_200 (Nat.le_of_ble_eq_true rfl) (Nat.le_of_ble_eq_true rfl) hk1 (congrArg va_rf hr3) ?_
  obtain ⟨hk4, hw⟩ := hw
  refine x_callV (M2 := M_X0_take) (As := []) (st := []) (ci := 0) (Nat.le_of_ble_eq_true rfl) hk4 rfl wM_X6_320 wI_X0_take wS_X0_take dX6_loseFirst_4 rfl ok_X0_take ⟨(Nat.le_of_ble_eq_true rfl), (Nat.le_of_ble_eq_true rfl)⟩ (Nat.le_of_ble_eq_true rfl) (ct_X0_take hk4 hw) (xqR.k (fun x5 σ6 hw2 => ?_))
  obtain ⟨hW, hw⟩ := hw2
  refine x_astore_nQ [(2, va_rf x5), (0, .ref a0), (1, .ref l1)] dX6_loseFirst_7 rfl (Nat.le_of_ble_eq_true rfl) rfl ?_
  refine x_aload_nQ dX6_loseFirst_8 rfl 0 rfl ?_
  refine x_ifnonnull 13 dX6_loseFirst_9 rfl (fun hn7 => ?_) (fun a8 hs9 => ?_)
  · replace hw := hw.1 hn7
    exact x_vret dX6_loseFirst_12 rfl ⟨rfl, hW, hw⟩
  · replace hw := hw.2 a8 hs9
    refine x_lvS 0 (lv2 := [(2, .ref a8), (0, .ref a0), (1, .ref l1)]) rfl hs9 rfl ?_
    refine x_aload_n dX6_loseFirst_13 rfl 0 rfl ?_
    obtain ⟨hk10, hw⟩ := hw
    refine x_callV (M2 := M_X1_breakByCut) (As := []) (st := []) (ci := 1) (Nat.le_of_ble_eq_true rfl) hk10 rfl wM_X6_328 wI_X1_breakByCut wS_X1_breakByCut dX6_loseFirst_14 rfl ok_X1_breakByCut ⟨(Nat.le_of_ble_eq_true rfl), (Nat.le_of_ble_eq_true rfl)⟩ (Nat.le_of_ble_eq_true rfl) (ct_X1_breakByCut hk10 hw) (xqV.k (fun σ11 hw2 => ?_))
    obtain ⟨hW, hw⟩ := hw2
    refine x_aload_n dX6_loseFirst_17 rfl 0 rfl ?_
    obtain ⟨hk12, hw⟩ := hw
    refine x_get (ci := 1) (k := 7) (v := .int (xh_I σ11 71 a8)) dX6_loseFirst_18 wF_X6_213 (Nat.le_of_ble_eq_true rfl) (Nat.le_of_ble_eq_true rfl) hk12 rfl ?_
    refine x_if_eq 36 dX6_loseFirst_21 rfl (fun hc13 => ?_) (fun hc13 => ?_)
    · replace hw := hw.1 hc13
      refine x_aload_n dX6_loseFirst_36 rfl 1 rfl ?_
      refine x_aload_n dX6_loseFirst_37 rfl 0 rfl ?_
      refine x_aload_n dX6_loseFirst_38 rfl 2 rfl ?_
      obtain ⟨hk14, hw⟩ := hw
      refine x_get (ci := 5) (k := 0) (v := .int (xh_I σ11 320 l1)) dX6_loseFirst_39 wF_X6_375 (Nat.le_of_ble_eq_true rfl) (Nat.le_of_ble_eq_true rfl) hk14 rfl ?_
      refine x_callV (M2 := M_X6_settle) (As := [.ref a8, .int (xh_I σ11 320 l1)]) (st := []) (ci := 6) (Nat.le_of_ble_eq_true rfl) hW.1 rfl wM_X6_310 wI_X6_settle wS_X6_settle dX6_loseFirst_42 rfl ok_X6_settle ⟨(Nat.le_of_ble_eq_true rfl), (Nat.le_of_ble_eq_true rfl)⟩ (Nat.le_of_ble_eq_true rfl) (ct_X6_settle hW hw) (xqV.k (fun σ15 hw2 => ?_))
      obtain ⟨hW, hw⟩ := hw2
      exact x_sub [1] rfl (xb_X6_loseFirst_45 hW hw)
    · replace hw := hw.2 hc13
      refine x_aload_n dX6_loseFirst_24 rfl 1 rfl ?_
      refine x_aload_n dX6_loseFirst_25 rfl 0 rfl ?_
      refine x_aload_n dX6_loseFirst_26 rfl 2 rfl ?_
      obtain ⟨hk16, hw⟩ := hw
      refine x_get (ci := 5) (k := 1) (v := .int (xh_I σ11 321 l1)) dX6_loseFirst_27 wF_X6_363 (Nat.le_of_ble_eq_true rfl) (Nat.le_of_ble_eq_true rfl) hk16 rfl ?_
      refine x_callV (M2 := M_X6_receiveAnswer) (As := [.ref a8, .int (xh_I σ11 321 l1)]) (st := []) (ci := 6) (Nat.le_of_ble_eq_true rfl) hW.1 rfl wM_X6_366 wI_X6_receiveAnswer wS_X6_receiveAnswer dX6_loseFirst_30 rfl ok_X6_receiveAnswer ⟨(Nat.le_of_ble_eq_true rfl), (Nat.le_of_ble_eq_true rfl)⟩ (Nat.le_of_ble_eq_true rfl) (ct_X6_receiveAnswer hW hw) (xqV.k (fun σ17 hw2 => ?_))
      obtain ⟨hW, hw⟩ := hw2
      refine x_goto 45 dX6_loseFirst_33 rfl ?_
      exact x_sub [1] rfl (xb_X6_loseFirst_45 hW hw)
-- PromiseWire.cut(II)I
def wb_X6_cut_113 (Q : Int32 → xS → Prop) (K89 : xS → Nat → Nat → Int32 → Int32 → Prop) (σ : xS) (a0 : Nat) (l3 : Nat) (l4 : Nat) (l5 : Int32) (l6 : Int32) (s1 : Nat) : Prop := wp_X6_loseFirst σ a0 s1 (fun σ1 => wp_X6_doAll σ1 a0 (fun σ2 => K89 σ2 l3 l4 l5 (l6 + 1)))
set_option maxRecDepth 100000 in
set_option maxHeartbeats 4000000 in
theorem xb_X6_cut_113 {Q : Int32 → xS → Prop} {K89 : xS → Nat → Nat → Int32 → Int32 → Prop} {σ : xS} {a0 : Nat}  {l3 : Nat} {l4 : Nat} {l5 : Int32} {l6 : Int32} {s1 : Nat} (hW : xw6 σ a0)  (hK89 : ∀ (σ : xS) (l3 : Nat) (l4 : Nat) (l5 : Int32) (l6 : Int32), xw6 σ a0 → K89 σ l3 l4 l5 l6 → xX M_X6_cut 89 [(0, .ref a0), (3, .ref l3), (4, .ref l4), (5, .int l5), (6, .int l6)] [] σ (xqI (fun r σ2 => xw6 σ2 a0 ∧ Q r σ2))) (hw : wb_X6_cut_113 Q K89 σ a0 l3 l4 l5 l6 s1) : xX M_X6_cut 113 [(0, .ref a0), (3, .ref l3), (4, .ref l4), (5, .int l5), (6, .int l6)] [.ref s1, .ref a0] σ (xqI (fun r σ2 => xw6 σ2 a0 ∧ Q r σ2)) := by
  unfold wb_X6_cut_113 at hw
  refine x_callV (M2 := M_X6_loseFirst) (As := [.ref s1]) (st := []) (ci := 6) (Nat.le_of_ble_eq_true rfl) hW.1 rfl wM_X6_202 wI_X6_loseFirst wS_X6_loseFirst dX6_cut_113 rfl ok_X6_loseFirst ⟨(Nat.le_of_ble_eq_true rfl), (Nat.le_of_ble_eq_true rfl)⟩ (Nat.le_of_ble_eq_true rfl) (ct_X6_loseFirst hW hw) (xqV.k (fun σ1 hw2 => ?_))
  obtain ⟨hW, hw⟩ := hw2
  refine x_aload_n dX6_cut_116 rfl 0 rfl ?_
  refine x_callV (M2 := M_X6_doAll) (As := []) (st := []) (ci := 6) (Nat.le_of_ble_eq_true rfl) hW.1 rfl wM_X6_78 wI_X6_doAll wS_X6_doAll dX6_cut_117 rfl ok_X6_doAll ⟨(Nat.le_of_ble_eq_true rfl), (Nat.le_of_ble_eq_true rfl)⟩ (Nat.le_of_ble_eq_true rfl) (ct_X6_doAll hW hw) (xqV.k (fun σ2 hw2 => ?_))
  obtain ⟨hW, hw⟩ := hw2
  refine x_iinc [(6, .int (l6 + 1)), (0, .ref a0), (3, .ref l3), (4, .ref l4), (5, .int l5)] dX6_cut_120 4 rfl (congrArg _ cI_1) (Nat.le_of_ble_eq_true rfl) rfl ?_
  refine x_goto 89 dX6_cut_123 rfl ?_
  exact x_sub [1, 2, 3, 4, 0] rfl (hK89 _ _ _ _ _ hW hw)
def wb_X6_cut_89 (Q : Int32 → xS → Prop) (a0 : Nat) : Nat → xS → Nat → Nat → Int32 → Int32 → Prop
  | 0, _, _, _, _, _ => False
  | n + 1, σ, l3, l4, l5, l6 => (l5 ≤ l6 → Q l5 σ) ∧ (¬ l5 ≤ l6 → xh_k σ l3 = 6 ∧ ∃ r5, xh_R σ 322 l3 = some r5 ∧ (xh_k σ r5 = 1 ∧ (((xh_I σ 2 r5) ≤ 0 → wb_X6_cut_113 Q (fun σ l3 l4 l5 l6 => wb_X6_cut_89 Q a0 n σ l3 l4 l5 l6) σ a0 l3 l4 l5 l6 l4) ∧ (¬ (xh_I σ 2 r5) ≤ 0 → wb_X6_cut_113 Q (fun σ l3 l4 l5 l6 => wb_X6_cut_89 Q a0 n σ l3 l4 l5 l6) σ a0 l3 l4 l5 l6 l3))))
set_option maxRecDepth 100000 in
set_option maxHeartbeats 4000000 in
theorem xl_X6_cut_89 {Q : Int32 → xS → Prop} {a0 : Nat}  : ∀ (n : Nat) (σ : xS) (l3 : Nat) (l4 : Nat) (l5 : Int32) (l6 : Int32), xw6 σ a0 → wb_X6_cut_89 Q a0 n σ l3 l4 l5 l6 → xX M_X6_cut 89 [(0, .ref a0), (3, .ref l3), (4, .ref l4), (5, .int l5), (6, .int l6)] [] σ (xqI (fun r σ2 => xw6 σ2 a0 ∧ Q r σ2)) := by
  intro n
  induction n with
  | zero => intro σ l3 l4 l5 l6 hW hw; exact False.elim hw
  | succ n ih =>
    intro σ l3 l4 l5 l6 hW hw
    unfold wb_X6_cut_89 at hw
    refine x_iload dX6_cut_89 4 rfl ?_
    refine x_iload dX6_cut_91 3 rfl ?_
    refine x_icmp_ge 126 dX6_cut_93 rfl (fun hc3 => ?_) (fun hc3 => ?_)
    · replace hw := hw.1 hc3
      refine x_iload dX6_cut_126 3 rfl ?_
      exact x_iret dX6_cut_128 rfl ⟨l5, rfl, hW, hw⟩
    · replace hw := hw.2 hc3
      refine x_aload_n dX6_cut_96 rfl 0 rfl ?_
      refine x_aload_n dX6_cut_97 rfl 1 rfl ?_
      obtain ⟨hk4, hw⟩ := hw
      obtain ⟨r5, hr6, hw⟩ := hw
      refine x_get (ci := 5) (k := 2) (v := .ref r5) dX6_cut_98 wF_X6_200 (Nat.le_of_ble_eq_true rfl) (Nat.le_of_ble_eq_true rfl) hk4 (congrArg va_rf hr6) ?_
      obtain ⟨hk7, hw⟩ := hw
      refine x_get (ci := 0) (k := 2) (v := .int (xh_I σ 2 r5)) dX6_cut_101 wF_X6_100 (Nat.le_of_ble_eq_true rfl) (Nat.le_of_ble_eq_true rfl) hk7 rfl ?_
      refine x_if_le 111 dX6_cut_104 rfl (fun hc8 => ?_) (fun hc8 => ?_)
      · replace hw := hw.1 hc8
        refine x_aload dX6_cut_111 2 rfl ?_
        exact x_sub [0, 1, 2, 3, 4] rfl (xb_X6_cut_113 hW ih hw)
      · replace hw := hw.2 hc8
        refine x_aload_n dX6_cut_107 rfl 1 rfl ?_
        refine x_goto 113 dX6_cut_108 rfl ?_
        exact x_sub [0, 1, 2, 3, 4] rfl (xb_X6_cut_113 hW ih hw)
def wb_X6_cut_45 (Q : Int32 → xS → Prop) (σ : xS) (a0 : Nat) : Prop := Q (-1) σ
set_option maxRecDepth 100000 in
set_option maxHeartbeats 4000000 in
theorem xb_X6_cut_45 {Q : Int32 → xS → Prop} {σ : xS} {a0 : Nat}  (hW : xw6 σ a0)  (hw : wb_X6_cut_45 Q σ a0) : xX M_X6_cut 45 [(0, .ref a0)] [] σ (xqI (fun r σ2 => xw6 σ2 a0 ∧ Q r σ2)) := by
  unfold wb_X6_cut_45 at hw
  refine x_iconst dX6_cut_45 cI_m1 ?_
  exact x_iret dX6_cut_46 rfl ⟨(-1), rfl, hW, hw⟩
def wp_X6_cut (σ : xS) (a0 : Nat) (l1 : Int32) (l2 : Int32) (Q : Int32 → xS → Prop) : Prop := wp_X6_wireAt σ a0 (if l2 < l1 then l2 else l1) (if l1 < l2 then l2 else l1) (fun x9 => wp_X6_wireAt σ a0 (if l1 < l2 then l2 else l1) (if l2 < l1 then l2 else l1) (fun x11 => (x9 = none → wb_X6_cut_45 Q σ a0) ∧ (∀ a14, x9 = some a14 → (x11 = none → wb_X6_cut_45 Q σ a0) ∧ (∀ a17, x11 = some a17 → (l1 = l2 → wb_X6_cut_45 Q σ a0) ∧ (¬ l1 = l2 → xh_k σ a14 = 6 ∧ (((xh_I σ 323 a14) = 0 → ∀ σ22, σ22 = xs_I σ 323 a14 1 → (xh_k σ22 a17 = 6 ∧ ∀ σ24, σ24 = xs_I σ22 323 a17 1 → (∃ r25, xh_R σ24 322 a14 = some r25 ∧ (xh_k σ24 r25 = 1 ∧ (∃ r28, xh_R σ24 322 a17 = some r28 ∧ (xh_k σ24 r28 = 1 ∧ (∃ m89, wb_X6_cut_89 Q a0 m89 σ24 a14 a17 ((xh_I σ24 2 r25) + (xh_I σ24 2 r28)) 0))))))) ∧ (¬ (xh_I σ 323 a14) = 0 → Q (-2) σ)))))))
set_option maxRecDepth 100000 in
set_option maxHeartbeats 4000000 in
theorem ct_X6_cut {σ : xS} {a0 : Nat}  {l1 : Int32} {l2 : Int32} {Q : Int32 → xS → Prop} (hW : xw6 σ a0) (hw : wp_X6_cut σ a0 l1 l2 Q) : xCt M_X6_cut [.ref a0, .int l1, .int l2] σ (xqI (fun r σ2 => xw6 σ2 a0 ∧ Q r σ2)) := by
  refine xCt_ofL (lv := [(0, .ref a0), (1, .int l1), (2, .int l2)]) pn_X6 (Nat.le_of_ble_eq_true rfl) rfl ?_
  unfold wp_X6_cut at hw
  refine x_aload_n dX6_cut_0 rfl 0 rfl ?_
  refine x_iload_n dX6_cut_1 rfl 1 rfl ?_
  refine x_iload_n dX6_cut_2 rfl 2 rfl ?_
  refine x_mmin dX6_cut_3 wM_X6_188 wZ_mmin wN_J9 wC_mmin (Nat.le_of_ble_eq_true rfl) (Nat.le_of_ble_eq_true rfl) (Nat.le_of_ble_eq_true rfl) ?_
  refine x_iload_n dX6_cut_6 rfl 1 rfl ?_
  refine x_iload_n dX6_cut_7 rfl 2 rfl ?_
  refine x_mmax dX6_cut_8 wM_X6_194 wZ_mmax wN_J9 wC_mmax (Nat.le_of_ble_eq_true rfl) (Nat.le_of_ble_eq_true rfl) (Nat.le_of_ble_eq_true rfl) ?_
  refine x_callV (M2 := M_X6_wireAt) (As := [.int (if l2 < l1 then l2 else l1), .int (if l1 < l2 then l2 else l1)]) (st := []) (ci := 6) (Nat.le_of_ble_eq_true rfl) hW.1 rfl wM_X6_176 wI_X6_wireAt wS_X6_wireAt dX6_cut_11 rfl ok_X6_wireAt ⟨(Nat.le_of_ble_eq_true rfl), (Nat.le_of_ble_eq_true rfl)⟩ (Nat.le_of_ble_eq_true rfl) (ct_X6_wireAt hW hw) (xqR.k (fun x9 τ10 hw2 => ?_))
  obtain ⟨he, hw⟩ := hw2
  subst he
  refine x_astore_nQ [(3, va_rf x9), (0, .ref a0), (1, .int l1), (2, .int l2)] dX6_cut_14 rfl (Nat.le_of_ble_eq_true rfl) rfl ?_
  refine x_aload_n dX6_cut_15 rfl 1 rfl ?_
  refine x_iload_n dX6_cut_16 rfl 2 rfl ?_
  refine x_iload_n dX6_cut_17 rfl 3 rfl ?_
  refine x_mmax dX6_cut_18 wM_X6_194 wZ_mmax wN_J9 wC_mmax (Nat.le_of_ble_eq_true rfl) (Nat.le_of_ble_eq_true rfl) (Nat.le_of_ble_eq_true rfl) ?_
  refine x_iload_n dX6_cut_21 rfl 2 rfl ?_
  refine x_iload_n dX6_cut_22 rfl 3 rfl ?_
  refine x_mmin dX6_cut_23 wM_X6_188 wZ_mmin wN_J9 wC_mmin (Nat.le_of_ble_eq_true rfl) (Nat.le_of_ble_eq_true rfl) (Nat.le_of_ble_eq_true rfl) ?_
  refine x_callV (M2 := M_X6_wireAt) (As := [.int (if l1 < l2 then l2 else l1), .int (if l2 < l1 then l2 else l1)]) (st := []) (ci := 6) (Nat.le_of_ble_eq_true rfl) hW.1 rfl wM_X6_176 wI_X6_wireAt wS_X6_wireAt dX6_cut_26 rfl ok_X6_wireAt ⟨(Nat.le_of_ble_eq_true rfl), (Nat.le_of_ble_eq_true rfl)⟩ (Nat.le_of_ble_eq_true rfl) (ct_X6_wireAt hW hw) (xqR.k (fun x11 τ12 hw2 => ?_))
  obtain ⟨he, hw⟩ := hw2
  subst he
  refine x_astoreQ (i := 4) [(4, va_rf x11), (3, va_rf x9), (0, .ref a0), (1, .int l1), (2, .int l2)] dX6_cut_29 (Nat.le_of_ble_eq_true rfl) (by simp [xcat, xcatI, xcatR, xcatL, xcatN]) ?_
  refine x_aload_nQ dX6_cut_31 rfl 1 rfl ?_
  refine x_ifnull 45 dX6_cut_32 rfl (fun hn13 => ?_) (fun a14 hs15 => ?_)
  · replace hw := hw.1 hn13
    exact x_sub [2] rfl (xb_X6_cut_45 hW hw)
  · replace hw := hw.2 a14 hs15
    refine x_lvS 1 (lv2 := [(4, va_rf x11), (3, .ref a14), (0, .ref a0), (1, .int l1), (2, .int l2)]) rfl hs15 rfl ?_
    refine x_aloadQ dX6_cut_35 0 rfl ?_
    refine x_ifnull 45 dX6_cut_37 rfl (fun hn16 => ?_) (fun a17 hs18 => ?_)
    · replace hw := hw.1 hn16
      exact x_sub [2] rfl (xb_X6_cut_45 hW hw)
    · replace hw := hw.2 a17 hs18
      refine x_lvS 0 (lv2 := [(4, .ref a17), (3, .ref a14), (0, .ref a0), (1, .int l1), (2, .int l2)]) rfl hs18 rfl ?_
      refine x_iload_n dX6_cut_40 rfl 3 rfl ?_
      refine x_iload_n dX6_cut_41 rfl 4 rfl ?_
      refine x_icmp_ne 47 dX6_cut_42 rfl (fun hc19 => ?_) (fun hc19 => ?_)
      · replace hw := hw.2 hc19
        refine x_aload_n dX6_cut_47 rfl 1 rfl ?_
        obtain ⟨hk20, hw⟩ := hw
        refine x_get (ci := 5) (k := 3) (v := .int (xh_I σ 323 a14)) dX6_cut_48 wF_X6_197 (Nat.le_of_ble_eq_true rfl) (Nat.le_of_ble_eq_true rfl) hk20 rfl ?_
        refine x_if_eq 57 dX6_cut_51 rfl (fun hc21 => ?_) (fun hc21 => ?_)
        · replace hw := hw.1 hc21
          refine x_aload_n dX6_cut_57 rfl 1 rfl ?_
          refine x_iconst dX6_cut_58 cI_1 ?_
          refine x_putIN (ci := 5) (k := 3) (f := 323) dX6_cut_59 wF_X6_197 (Nat.le_of_ble_eq_true rfl) (Nat.le_of_ble_eq_true rfl) hk20 (Or.inl rfl) rfl (Or.inr ⟨rfl, (Or.inr rfl)⟩) (fun σ22 hσ22 => ?_)
          replace hw := hw σ22 hσ22
          refine x_aload dX6_cut_62 0 rfl ?_
          refine x_iconst dX6_cut_64 cI_1 ?_
          obtain ⟨hk23, hw⟩ := hw
          refine x_putIN (ci := 5) (k := 3) (f := 323) dX6_cut_65 wF_X6_197 (Nat.le_of_ble_eq_true rfl) (Nat.le_of_ble_eq_true rfl) hk23 (Or.inl rfl) rfl (Or.inr ⟨rfl, (Or.inr rfl)⟩) (fun σ24 hσ24 => ?_)
          replace hw := hw σ24 hσ24
          refine x_aload_n dX6_cut_68 rfl 1 rfl ?_
          obtain ⟨r25, hr26, hw⟩ := hw
          refine x_get (ci := 5) (k := 2) (v := .ref r25) dX6_cut_69 wF_X6_200 (Nat.le_of_ble_eq_true rfl) (Nat.le_of_ble_eq_true rfl) (xk_I hσ24 (xk_I hσ22 hk20)) (congrArg va_rf hr26) ?_
          obtain ⟨hk27, hw⟩ := hw
          refine x_get (ci := 0) (k := 2) (v := .int (xh_I σ24 2 r25)) dX6_cut_72 wF_X6_100 (Nat.le_of_ble_eq_true rfl) (Nat.le_of_ble_eq_true rfl) hk27 rfl ?_
          refine x_aload dX6_cut_75 0 rfl ?_
          obtain ⟨r28, hr29, hw⟩ := hw
          refine x_get (ci := 5) (k := 2) (v := .ref r28) dX6_cut_77 wF_X6_200 (Nat.le_of_ble_eq_true rfl) (Nat.le_of_ble_eq_true rfl) (xk_I hσ24 hk23) (congrArg va_rf hr29) ?_
          obtain ⟨hk30, hw⟩ := hw
          refine x_get (ci := 0) (k := 2) (v := .int (xh_I σ24 2 r28)) dX6_cut_80 wF_X6_100 (Nat.le_of_ble_eq_true rfl) (Nat.le_of_ble_eq_true rfl) hk30 rfl ?_
          refine x_iadd dX6_cut_83 ?_
          refine x_istore [(5, .int ((xh_I σ24 2 r25) + (xh_I σ24 2 r28))), (4, .ref a17), (3, .ref a14), (0, .ref a0), (1, .int l1), (2, .int l2)] dX6_cut_84 (Nat.le_of_ble_eq_true rfl) rfl ?_
          refine x_iconst dX6_cut_86 cI_0 ?_
          refine x_istore [(6, .int 0), (5, .int ((xh_I σ24 2 r25) + (xh_I σ24 2 r28))), (4, .ref a17), (3, .ref a14), (0, .ref a0), (1, .int l1), (2, .int l2)] dX6_cut_87 (Nat.le_of_ble_eq_true rfl) rfl ?_
          have hW := (xw6_I hσ24 (xw6_I hσ22 hW))
          obtain ⟨m89, hw⟩ := hw
          exact x_sub [4, 3, 2, 1, 0] rfl (xl_X6_cut_89 m89 _ _ _ _ _ hW hw)
        · replace hw := hw.2 hc21
          refine x_bipush dX6_cut_54 cB_m2 ?_
          exact x_iret dX6_cut_56 rfl ⟨(-2), rfl, hW, hw⟩
      · replace hw := hw.1 hc19
        exact x_sub [2] rfl (xb_X6_cut_45 hW hw)
-- PromiseWire.again(II)I
def wb_X6_again_29 (Q : Int32 → xS → Prop) (σ : xS) (a0 : Nat) : Prop := Q (-1) σ
set_option maxRecDepth 100000 in
set_option maxHeartbeats 4000000 in
theorem xb_X6_again_29 {Q : Int32 → xS → Prop} {σ : xS} {a0 : Nat}  (hW : xw6 σ a0)  (hw : wb_X6_again_29 Q σ a0) : xX M_X6_again 29 [(0, .ref a0)] [] σ (xqI (fun r σ2 => xw6 σ2 a0 ∧ Q r σ2)) := by
  unfold wb_X6_again_29 at hw
  refine x_iconst dX6_again_29 cI_m1 ?_
  exact x_iret dX6_again_30 rfl ⟨(-1), rfl, hW, hw⟩
def wp_X6_again (σ : xS) (a0 : Nat) (l1 : Int32) (l2 : Int32) (Q : Int32 → xS → Prop) : Prop := wp_X6_wireAt σ a0 l1 l2 (fun x1 => wp_X6_wireAt σ a0 l2 l1 (fun x3 => (x1 = none → wb_X6_again_29 Q σ a0) ∧ (∀ a6, x1 = some a6 → (x3 = none → wb_X6_again_29 Q σ a0) ∧ (∀ a9, x3 = some a9 → (l1 = l2 → wb_X6_again_29 Q σ a0) ∧ (¬ l1 = l2 → xh_k σ a6 = 6 ∧ (((xh_I σ 323 a6) = 0 → Q (-2) σ) ∧ (¬ (xh_I σ 323 a6) = 0 → ∀ σ14, σ14 = xs_I σ 323 a6 0 → (xh_k σ14 a9 = 6 ∧ ∀ σ16, σ16 = xs_I σ14 323 a9 0 → (Q 1 σ16)))))))))
set_option maxRecDepth 100000 in
set_option maxHeartbeats 4000000 in
theorem ct_X6_again {σ : xS} {a0 : Nat}  {l1 : Int32} {l2 : Int32} {Q : Int32 → xS → Prop} (hW : xw6 σ a0) (hw : wp_X6_again σ a0 l1 l2 Q) : xCt M_X6_again [.ref a0, .int l1, .int l2] σ (xqI (fun r σ2 => xw6 σ2 a0 ∧ Q r σ2)) := by
  refine xCt_ofL (lv := [(0, .ref a0), (1, .int l1), (2, .int l2)]) pn_X6 (Nat.le_of_ble_eq_true rfl) rfl ?_
  unfold wp_X6_again at hw
  refine x_aload_n dX6_again_0 rfl 0 rfl ?_
  refine x_iload_n dX6_again_1 rfl 1 rfl ?_
  refine x_iload_n dX6_again_2 rfl 2 rfl ?_
  refine x_callV (M2 := M_X6_wireAt) (As := [.int l1, .int l2]) (st := []) (ci := 6) (Nat.le_of_ble_eq_true rfl) hW.1 rfl wM_X6_176 wI_X6_wireAt wS_X6_wireAt dX6_again_3 rfl ok_X6_wireAt ⟨(Nat.le_of_ble_eq_true rfl), (Nat.le_of_ble_eq_true rfl)⟩ (Nat.le_of_ble_eq_true rfl) (ct_X6_wireAt hW hw) (xqR.k (fun x1 τ2 hw2 => ?_))
  obtain ⟨he, hw⟩ := hw2
  subst he
  refine x_astore_nQ [(3, va_rf x1), (0, .ref a0), (1, .int l1), (2, .int l2)] dX6_again_6 rfl (Nat.le_of_ble_eq_true rfl) rfl ?_
  refine x_aload_n dX6_again_7 rfl 1 rfl ?_
  refine x_iload_n dX6_again_8 rfl 3 rfl ?_
  refine x_iload_n dX6_again_9 rfl 2 rfl ?_
  refine x_callV (M2 := M_X6_wireAt) (As := [.int l2, .int l1]) (st := []) (ci := 6) (Nat.le_of_ble_eq_true rfl) hW.1 rfl wM_X6_176 wI_X6_wireAt wS_X6_wireAt dX6_again_10 rfl ok_X6_wireAt ⟨(Nat.le_of_ble_eq_true rfl), (Nat.le_of_ble_eq_true rfl)⟩ (Nat.le_of_ble_eq_true rfl) (ct_X6_wireAt hW hw) (xqR.k (fun x3 τ4 hw2 => ?_))
  obtain ⟨he, hw⟩ := hw2
  subst he
  refine x_astoreQ (i := 4) [(4, va_rf x3), (3, va_rf x1), (0, .ref a0), (1, .int l1), (2, .int l2)] dX6_again_13 (Nat.le_of_ble_eq_true rfl) (by simp [xcat, xcatI, xcatR, xcatL, xcatN]) ?_
  refine x_aload_nQ dX6_again_15 rfl 1 rfl ?_
  refine x_ifnull 29 dX6_again_16 rfl (fun hn5 => ?_) (fun a6 hs7 => ?_)
  · replace hw := hw.1 hn5
    exact x_sub [2] rfl (xb_X6_again_29 hW hw)
  · replace hw := hw.2 a6 hs7
    refine x_lvS 1 (lv2 := [(4, va_rf x3), (3, .ref a6), (0, .ref a0), (1, .int l1), (2, .int l2)]) rfl hs7 rfl ?_
    refine x_aloadQ dX6_again_19 0 rfl ?_
    refine x_ifnull 29 dX6_again_21 rfl (fun hn8 => ?_) (fun a9 hs10 => ?_)
    · replace hw := hw.1 hn8
      exact x_sub [2] rfl (xb_X6_again_29 hW hw)
    · replace hw := hw.2 a9 hs10
      refine x_lvS 0 (lv2 := [(4, .ref a9), (3, .ref a6), (0, .ref a0), (1, .int l1), (2, .int l2)]) rfl hs10 rfl ?_
      refine x_iload_n dX6_again_24 rfl 3 rfl ?_
      refine x_iload_n dX6_again_25 rfl 4 rfl ?_
      refine x_icmp_ne 31 dX6_again_26 rfl (fun hc11 => ?_) (fun hc11 => ?_)
      · replace hw := hw.2 hc11
        refine x_aload_n dX6_again_31 rfl 1 rfl ?_
        obtain ⟨hk12, hw⟩ := hw
        refine x_get (ci := 5) (k := 3) (v := .int (xh_I σ 323 a6)) dX6_again_32 wF_X6_197 (Nat.le_of_ble_eq_true rfl) (Nat.le_of_ble_eq_true rfl) hk12 rfl ?_
        refine x_if_ne 41 dX6_again_35 rfl (fun hc13 => ?_) (fun hc13 => ?_)
        · replace hw := hw.2 hc13
          refine x_aload_n dX6_again_41 rfl 1 rfl ?_
          refine x_iconst dX6_again_42 cI_0 ?_
          refine x_putIN (ci := 5) (k := 3) (f := 323) dX6_again_43 wF_X6_197 (Nat.le_of_ble_eq_true rfl) (Nat.le_of_ble_eq_true rfl) hk12 (Or.inl rfl) rfl (Or.inr ⟨rfl, (Or.inl rfl)⟩) (fun σ14 hσ14 => ?_)
          replace hw := hw σ14 hσ14
          refine x_aload dX6_again_46 0 rfl ?_
          refine x_iconst dX6_again_48 cI_0 ?_
          obtain ⟨hk15, hw⟩ := hw
          refine x_putIN (ci := 5) (k := 3) (f := 323) dX6_again_49 wF_X6_197 (Nat.le_of_ble_eq_true rfl) (Nat.le_of_ble_eq_true rfl) hk15 (Or.inl rfl) rfl (Or.inr ⟨rfl, (Or.inl rfl)⟩) (fun σ16 hσ16 => ?_)
          replace hw := hw σ16 hσ16
          refine x_iconst dX6_again_52 cI_1 ?_
          have hW := (xw6_I hσ16 (xw6_I hσ14 hW))
          exact x_iret dX6_again_53 rfl ⟨1, rfl, hW, hw⟩
        · replace hw := hw.1 hc13
          refine x_bipush dX6_again_38 cB_m2 ?_
          exact x_iret dX6_again_40 rfl ⟨(-2), rfl, hW, hw⟩
      · replace hw := hw.1 hc11
        exact x_sub [2] rfl (xb_X6_again_29 hW hw)
-- PromiseWire.wire(II)I
def wb_X6_wire_22 (Q : Int32 → Prop) (σ : xS) (a0 : Nat) (s0 : Int32) : Prop := Q s0
set_option maxRecDepth 100000 in
set_option maxHeartbeats 4000000 in
theorem xb_X6_wire_22 {Q : Int32 → Prop} {σ : xS} {a0 : Nat}  {s0 : Int32} (hW : xw6 σ a0)  (hw : wb_X6_wire_22 Q σ a0 s0) : xX M_X6_wire 22 [(0, .ref a0)] [.int s0] σ (xqI (fun r σ2 => σ = σ2 ∧ Q r )) := by
  unfold wb_X6_wire_22 at hw
  exact x_iret dX6_wire_22 rfl ⟨s0, rfl, rfl, hw⟩
def wp_X6_wire (σ : xS) (a0 : Nat) (l1 : Int32) (l2 : Int32) (Q : Int32 → Prop) : Prop := wp_X6_wireAt σ a0 l1 l2 (fun x1 => (x1 = none → wb_X6_wire_22 Q σ a0 (-1)) ∧ (∀ a4, x1 = some a4 → xh_k σ a4 = 6 ∧ ∃ r7, xh_R σ 322 a4 = some r7 ∧ (xh_k σ r7 = 1 ∧ (wb_X6_wire_22 Q σ a0 (xh_I σ 2 r7)))))
set_option maxRecDepth 100000 in
set_option maxHeartbeats 4000000 in
theorem ct_X6_wire {σ : xS} {a0 : Nat}  {l1 : Int32} {l2 : Int32} {Q : Int32 → Prop} (hW : xw6 σ a0) (hw : wp_X6_wire σ a0 l1 l2 Q) : xCt M_X6_wire [.ref a0, .int l1, .int l2] σ (xqI (fun r σ2 => σ = σ2 ∧ Q r )) := by
  refine xCt_ofL (lv := [(0, .ref a0), (1, .int l1), (2, .int l2)]) pn_X6 (Nat.le_of_ble_eq_true rfl) rfl ?_
  unfold wp_X6_wire at hw
  refine x_aload_n dX6_wire_0 rfl 0 rfl ?_
  refine x_iload_n dX6_wire_1 rfl 1 rfl ?_
  refine x_iload_n dX6_wire_2 rfl 2 rfl ?_
  refine x_callV (M2 := M_X6_wireAt) (As := [.int l1, .int l2]) (st := []) (ci := 6) (Nat.le_of_ble_eq_true rfl) hW.1 rfl wM_X6_176 wI_X6_wireAt wS_X6_wireAt dX6_wire_3 rfl ok_X6_wireAt ⟨(Nat.le_of_ble_eq_true rfl), (Nat.le_of_ble_eq_true rfl)⟩ (Nat.le_of_ble_eq_true rfl) (ct_X6_wireAt hW hw) (xqR.k (fun x1 τ2 hw2 => ?_))
  obtain ⟨he, hw⟩ := hw2
  subst he
  refine x_astore_nQ [(3, va_rf x1), (0, .ref a0), (1, .int l1), (2, .int l2)] dX6_wire_6 rfl (Nat.le_of_ble_eq_true rfl) rfl ?_
  refine x_aload_nQ dX6_wire_7 rfl 0 rfl ?_
  refine x_ifnonnull 15 dX6_wire_8 rfl (fun hn3 => ?_) (fun a4 hs5 => ?_)
  · replace hw := hw.1 hn3
    refine x_iconst dX6_wire_11 cI_m1 ?_
    refine x_goto 22 dX6_wire_12 rfl ?_
    exact x_sub [1] rfl (xb_X6_wire_22 hW hw)
  · replace hw := hw.2 a4 hs5
    refine x_lvS 0 (lv2 := [(3, .ref a4), (0, .ref a0), (1, .int l1), (2, .int l2)]) rfl hs5 rfl ?_
    refine x_aload_n dX6_wire_15 rfl 0 rfl ?_
    obtain ⟨hk6, hw⟩ := hw
    obtain ⟨r7, hr8, hw⟩ := hw
    refine x_get (ci := 5) (k := 2) (v := .ref r7) dX6_wire_16 wF_X6_200 (Nat.le_of_ble_eq_true rfl) (Nat.le_of_ble_eq_true rfl) hk6 (congrArg va_rf hr8) ?_
    obtain ⟨hk9, hw⟩ := hw
    refine x_get (ci := 0) (k := 2) (v := .int (xh_I σ 2 r7)) dX6_wire_19 wF_X6_100 (Nat.le_of_ble_eq_true rfl) (Nat.le_of_ble_eq_true rfl) hk9 rfl ?_
    exact x_sub [1] rfl (xb_X6_wire_22 hW hw)
-- PromiseWire.letter(IIII)I
def wb_X6_letter_211 (Q : Int32 → Prop) (σ : xS) (a0 : Nat) (s0 : Int32) : Prop := Q s0
set_option maxRecDepth 100000 in
set_option maxHeartbeats 4000000 in
theorem xb_X6_letter_211 {Q : Int32 → Prop} {σ : xS} {a0 : Nat}  {s0 : Int32} (hW : xw6 σ a0)  (hw : wb_X6_letter_211 Q σ a0 s0) : xX M_X6_letter 211 [(0, .ref a0)] [.int s0] σ (xqI (fun r σ2 => σ = σ2 ∧ Q r )) := by
  unfold wb_X6_letter_211 at hw
  exact x_iret dX6_letter_211 rfl ⟨s0, rfl, rfl, hw⟩
def wb_X6_letter_198 (Q : Int32 → Prop) (σ : xS) (a0 : Nat) : Prop := wb_X6_letter_211 Q σ a0 (-9)
set_option maxRecDepth 100000 in
set_option maxHeartbeats 4000000 in
theorem xb_X6_letter_198 {Q : Int32 → Prop} {σ : xS} {a0 : Nat}  (hW : xw6 σ a0)  (hw : wb_X6_letter_198 Q σ a0) : xX M_X6_letter 198 [(0, .ref a0)] [] σ (xqI (fun r σ2 => σ = σ2 ∧ Q r )) := by
  unfold wb_X6_letter_198 at hw
  refine x_bipush dX6_letter_198 cB_m9 ?_
  refine x_goto 211 dX6_letter_200 rfl ?_
  exact x_sub [0] rfl (xb_X6_letter_211 hW hw)
def wb_X6_letter_181 (Q : Int32 → Prop) (σ : xS) (a0 : Nat) (s0 : Int32) : Prop := Q s0
set_option maxRecDepth 100000 in
set_option maxHeartbeats 4000000 in
theorem xb_X6_letter_181 {Q : Int32 → Prop} {σ : xS} {a0 : Nat}  {s0 : Int32} (hW : xw6 σ a0)  (hw : wb_X6_letter_181 Q σ a0 s0) : xX M_X6_letter 181 [(0, .ref a0)] [.int s0] σ (xqI (fun r σ2 => σ = σ2 ∧ Q r )) := by
  unfold wb_X6_letter_181 at hw
  exact x_iret dX6_letter_181 rfl ⟨s0, rfl, rfl, hw⟩
def wb_X6_letter_168 (Q : Int32 → Prop) (σ : xS) (a0 : Nat) : Prop := wb_X6_letter_181 Q σ a0 (-9)
set_option maxRecDepth 100000 in
set_option maxHeartbeats 4000000 in
theorem xb_X6_letter_168 {Q : Int32 → Prop} {σ : xS} {a0 : Nat}  (hW : xw6 σ a0)  (hw : wb_X6_letter_168 Q σ a0) : xX M_X6_letter 168 [(0, .ref a0)] [] σ (xqI (fun r σ2 => σ = σ2 ∧ Q r )) := by
  unfold wb_X6_letter_168 at hw
  refine x_bipush dX6_letter_168 cB_m9 ?_
  refine x_goto 181 dX6_letter_170 rfl ?_
  exact x_sub [0] rfl (xb_X6_letter_181 hW hw)
def wb_X6_letter_151 (Q : Int32 → Prop) (σ : xS) (a0 : Nat) (s0 : Int32) : Prop := Q s0
set_option maxRecDepth 100000 in
set_option maxHeartbeats 4000000 in
theorem xb_X6_letter_151 {Q : Int32 → Prop} {σ : xS} {a0 : Nat}  {s0 : Int32} (hW : xw6 σ a0)  (hw : wb_X6_letter_151 Q σ a0 s0) : xX M_X6_letter 151 [(0, .ref a0)] [.int s0] σ (xqI (fun r σ2 => σ = σ2 ∧ Q r )) := by
  unfold wb_X6_letter_151 at hw
  exact x_iret dX6_letter_151 rfl ⟨s0, rfl, rfl, hw⟩
def wb_X6_letter_129 (Q : Int32 → Prop) (σ : xS) (a0 : Nat) (s0 : Int32) : Prop := Q s0
set_option maxRecDepth 100000 in
set_option maxHeartbeats 4000000 in
theorem xb_X6_letter_129 {Q : Int32 → Prop} {σ : xS} {a0 : Nat}  {s0 : Int32} (hW : xw6 σ a0)  (hw : wb_X6_letter_129 Q σ a0 s0) : xX M_X6_letter 129 [(0, .ref a0)] [.int s0] σ (xqI (fun r σ2 => σ = σ2 ∧ Q r )) := by
  unfold wb_X6_letter_129 at hw
  exact x_iret dX6_letter_129 rfl ⟨s0, rfl, rfl, hw⟩
def wb_X6_letter_107 (Q : Int32 → Prop) (σ : xS) (a0 : Nat) (s0 : Int32) : Prop := Q s0
set_option maxRecDepth 100000 in
set_option maxHeartbeats 4000000 in
theorem xb_X6_letter_107 {Q : Int32 → Prop} {σ : xS} {a0 : Nat}  {s0 : Int32} (hW : xw6 σ a0)  (hw : wb_X6_letter_107 Q σ a0 s0) : xX M_X6_letter 107 [(0, .ref a0)] [.int s0] σ (xqI (fun r σ2 => σ = σ2 ∧ Q r )) := by
  unfold wb_X6_letter_107 at hw
  exact x_iret dX6_letter_107 rfl ⟨s0, rfl, rfl, hw⟩
def wb_X6_letter_24 (Q : Int32 → Prop) (σ : xS) (a0 : Nat) : Prop := Q (-1)
set_option maxRecDepth 100000 in
set_option maxHeartbeats 4000000 in
theorem xb_X6_letter_24 {Q : Int32 → Prop} {σ : xS} {a0 : Nat}  (hW : xw6 σ a0)  (hw : wb_X6_letter_24 Q σ a0) : xX M_X6_letter 24 [(0, .ref a0)] [] σ (xqI (fun r σ2 => σ = σ2 ∧ Q r )) := by
  unfold wb_X6_letter_24 at hw
  refine x_iconst dX6_letter_24 cI_m1 ?_
  exact x_iret dX6_letter_25 rfl ⟨(-1), rfl, rfl, hw⟩
def wp_X6_letter (σ : xS) (a0 : Nat) (l1 : Int32) (l2 : Int32) (l3 : Int32) (l4 : Int32) (Q : Int32 → Prop) : Prop := wp_X6_wireAt σ a0 l1 l2 (fun x1 => (x1 = none → wb_X6_letter_24 Q σ a0) ∧ (∀ a4, x1 = some a4 → (l4 < 0 → wb_X6_letter_24 Q σ a0) ∧ (¬ l4 < 0 → (l4 ≤ 5 → xh_k σ a4 = 6 ∧ ∃ r9, xh_R σ 322 a4 = some r9 ∧ (xh_k σ r9 = 1 ∧ wp_X0_at σ r9 l3 (fun x12 => (x12 = none → Q (-9)) ∧ (∀ a15, x12 = some a15 → (l4 = 0 → xh_k σ a15 = 2 ∧ wp_X1_whatLetter σ a15 (fun x19 => Q x19)) ∧ (¬ l4 = 0 → (l4 = 1 → xh_k σ a15 = 2 ∧ ((xh_R σ 64 a15 = none → wb_X6_letter_107 Q σ a0 (-9)) ∧ (∀ a24, xh_R σ 64 a15 = some a24 → xh_k σ a24 = 3 ∧ (wb_X6_letter_107 Q σ a0 (xh_I σ 128 a24))))) ∧ (¬ l4 = 1 → (l4 = 2 → xh_k σ a15 = 2 ∧ (((xh_I σ 71 a15) = 0 → wb_X6_letter_129 Q σ a0 (xh_I σ 65 a15)) ∧ (¬ (xh_I σ 71 a15) = 0 → wb_X6_letter_129 Q σ a0 (xh_I σ 72 a15)))) ∧ (¬ l4 = 2 → (l4 = 3 → xh_k σ a15 = 2 ∧ (((xh_I σ 71 a15) = 0 → wb_X6_letter_151 Q σ a0 (xh_I σ 66 a15)) ∧ (¬ (xh_I σ 71 a15) = 0 → wb_X6_letter_151 Q σ a0 (xh_I σ 73 a15)))) ∧ (¬ l4 = 3 → (l4 = 4 → xh_k σ a15 = 2 ∧ (((xh_I σ 71 a15) = 0 → (xh_R σ 68 a15 = none → wb_X6_letter_168 Q σ a0) ∧ (∀ a37, xh_R σ 68 a15 = some a37 → xh_k σ a37 = 4 ∧ (wb_X6_letter_181 Q σ a0 (xh_I σ 192 a37)))) ∧ (¬ (xh_I σ 71 a15) = 0 → wb_X6_letter_168 Q σ a0))) ∧ (¬ l4 = 4 → xh_k σ a15 = 2 ∧ (((xh_I σ 71 a15) = 0 → (xh_R σ 69 a15 = none → wb_X6_letter_198 Q σ a0) ∧ (∀ a43, xh_R σ 69 a15 = some a43 → xh_k σ a43 = 3 ∧ (wb_X6_letter_211 Q σ a0 (xh_I σ 128 a43)))) ∧ (¬ (xh_I σ 71 a15) = 0 → wb_X6_letter_198 Q σ a0))))))))))) ∧ (¬ l4 ≤ 5 → wb_X6_letter_24 Q σ a0))))
set_option maxRecDepth 100000 in
set_option maxHeartbeats 4000000 in
theorem ct_X6_letter {σ : xS} {a0 : Nat}  {l1 : Int32} {l2 : Int32} {l3 : Int32} {l4 : Int32} {Q : Int32 → Prop} (hW : xw6 σ a0) (hw : wp_X6_letter σ a0 l1 l2 l3 l4 Q) : xCt M_X6_letter [.ref a0, .int l1, .int l2, .int l3, .int l4] σ (xqI (fun r σ2 => σ = σ2 ∧ Q r )) := by
  refine xCt_ofL (lv := [(0, .ref a0), (1, .int l1), (2, .int l2), (3, .int l3), (4, .int l4)]) pn_X6 (Nat.le_of_ble_eq_true rfl) rfl ?_
  unfold wp_X6_letter at hw
  refine x_aload_n dX6_letter_0 rfl 0 rfl ?_
  refine x_iload_n dX6_letter_1 rfl 1 rfl ?_
  refine x_iload_n dX6_letter_2 rfl 2 rfl ?_
  refine x_callV (M2 := M_X6_wireAt) (As := [.int l1, .int l2]) (st := []) (ci := 6) (Nat.le_of_ble_eq_true rfl) hW.1 rfl wM_X6_176 wI_X6_wireAt wS_X6_wireAt dX6_letter_3 rfl ok_X6_wireAt ⟨(Nat.le_of_ble_eq_true rfl), (Nat.le_of_ble_eq_true rfl)⟩ (Nat.le_of_ble_eq_true rfl) (ct_X6_wireAt hW hw) (xqR.k (fun x1 τ2 hw2 => ?_))
  obtain ⟨he, hw⟩ := hw2
  subst he
  refine x_astoreQ [(5, va_rf x1), (0, .ref a0), (1, .int l1), (2, .int l2), (3, .int l3), (4, .int l4)] dX6_letter_6 (Nat.le_of_ble_eq_true rfl) rfl ?_
  refine x_aloadQ dX6_letter_8 0 rfl ?_
  refine x_ifnull 24 dX6_letter_10 rfl (fun hn3 => ?_) (fun a4 hs5 => ?_)
  · replace hw := hw.1 hn3
    exact x_sub [1] rfl (xb_X6_letter_24 hW hw)
  · replace hw := hw.2 a4 hs5
    refine x_lvS 0 (lv2 := [(5, .ref a4), (0, .ref a0), (1, .int l1), (2, .int l2), (3, .int l3), (4, .int l4)]) rfl hs5 rfl ?_
    refine x_iload dX6_letter_13 5 rfl ?_
    refine x_if_lt 24 dX6_letter_15 rfl (fun hc6 => ?_) (fun hc6 => ?_)
    · replace hw := hw.1 hc6
      exact x_sub [1] rfl (xb_X6_letter_24 hW hw)
    · replace hw := hw.2 hc6
      refine x_iload dX6_letter_18 5 rfl ?_
      refine x_iconst dX6_letter_20 cI_5 ?_
      refine x_icmp_le 26 dX6_letter_21 rfl (fun hc7 => ?_) (fun hc7 => ?_)
      · replace hw := hw.1 hc7
        refine x_aload dX6_letter_26 0 rfl ?_
        obtain ⟨hk8, hw⟩ := hw
        obtain ⟨r9, hr10, hw⟩ := hw
        refine x_get (ci := 5) (k := 2) (v := .ref r9) dX6_letter_28 wF_X6_200 (Nat.le_of_ble_eq_true rfl) (Nat.le_of_ble_eq_true rfl) hk8 (congrArg va_rf hr10) ?_
        refine x_iload_n dX6_letter_31 rfl 4 rfl ?_
        obtain ⟨hk11, hw⟩ := hw
        refine x_callV (M2 := M_X0_at) (As := [.int l3]) (st := []) (ci := 0) (Nat.le_of_ble_eq_true rfl) hk11 rfl wM_X6_206 wI_X0_at wS_X0_at dX6_letter_32 rfl ok_X0_at ⟨(Nat.le_of_ble_eq_true rfl), (Nat.le_of_ble_eq_true rfl)⟩ (Nat.le_of_ble_eq_true rfl) (ct_X0_at hk11 hw) (xqR.k (fun x12 τ13 hw2 => ?_))
        obtain ⟨he, hw⟩ := hw2
        subst he
        refine x_astoreQ [(6, va_rf x12), (5, .ref a4), (0, .ref a0), (1, .int l1), (2, .int l2), (3, .int l3), (4, .int l4)] dX6_letter_35 (Nat.le_of_ble_eq_true rfl) rfl ?_
        refine x_aloadQ dX6_letter_37 0 rfl ?_
        refine x_ifnonnull 45 dX6_letter_39 rfl (fun hn14 => ?_) (fun a15 hs16 => ?_)
        · replace hw := hw.1 hn14
          refine x_bipush dX6_letter_42 cB_m9 ?_
          exact x_iret dX6_letter_44 rfl ⟨(-9), rfl, rfl, hw⟩
        · replace hw := hw.2 a15 hs16
          refine x_lvS 0 (lv2 := [(6, .ref a15), (5, .ref a4), (0, .ref a0), (1, .int l1), (2, .int l2), (3, .int l3), (4, .int l4)]) rfl hs16 rfl ?_
          refine x_iload dX6_letter_45 6 rfl ?_
          by_cases hc17 : l4 = 0
          · replace hw := hw.1 hc17
            refine x_tableIn (off := 33) 80 dX6_letter_47 (by rw [hc17]; decide) (by rw [hc17]; decide) (by rw [hc17]; rfl) rfl ?_
            refine x_aload dX6_letter_80 0 rfl ?_
            obtain ⟨hk18, hw⟩ := hw
            refine x_callV (M2 := M_X1_whatLetter) (As := []) (st := []) (ci := 1) (Nat.le_of_ble_eq_true rfl) hk18 rfl wM_X6_210 wI_X1_whatLetter wS_X1_whatLetter dX6_letter_82 rfl ok_X1_whatLetter ⟨(Nat.le_of_ble_eq_true rfl), (Nat.le_of_ble_eq_true rfl)⟩ (Nat.le_of_ble_eq_true rfl) (ct_X1_whatLetter hk18 hw) (xqI.k (fun x19 τ20 hw2 => ?_))
            obtain ⟨he, hw⟩ := hw2
            subst he
            exact x_iret dX6_letter_85 rfl ⟨x19, rfl, rfl, hw⟩
          · replace hw := hw.2 hc17
            by_cases hc21 : l4 = 1
            · replace hw := hw.1 hc21
              refine x_tableIn (off := 39) 86 dX6_letter_47 (by rw [hc21]; decide) (by rw [hc21]; decide) (by rw [hc21]; rfl) rfl ?_
              refine x_aload dX6_letter_86 0 rfl ?_
              obtain ⟨hk22, hw⟩ := hw
              refine x_get (ci := 1) (k := 0) (v := va_rf (xh_R σ 64 a15)) dX6_letter_88 wF_X6_132 (Nat.le_of_ble_eq_true rfl) (Nat.le_of_ble_eq_true rfl) hk22 rfl ?_
              refine x_ifnonnull 99 dX6_letter_91 rfl (fun hn23 => ?_) (fun a24 hs25 => ?_)
              · replace hw := hw.1 hn23
                refine x_bipush dX6_letter_94 cB_m9 ?_
                refine x_goto 107 dX6_letter_96 rfl ?_
                exact x_sub [2] rfl (xb_X6_letter_107 hW hw)
              · replace hw := hw.2 a24 hs25
                refine x_aload dX6_letter_99 0 rfl ?_
                refine x_get (ci := 1) (k := 0) (v := .ref a24) dX6_letter_101 wF_X6_132 (Nat.le_of_ble_eq_true rfl) (Nat.le_of_ble_eq_true rfl) hk22 (congrArg va_rf hs25) ?_
                obtain ⟨hk26, hw⟩ := hw
                refine x_get (ci := 2) (k := 0) (v := .int (xh_I σ 128 a24)) dX6_letter_104 wF_X6_139 (Nat.le_of_ble_eq_true rfl) (Nat.le_of_ble_eq_true rfl) hk26 rfl ?_
                exact x_sub [2] rfl (xb_X6_letter_107 hW hw)
            · replace hw := hw.2 hc21
              by_cases hc27 : l4 = 2
              · replace hw := hw.1 hc27
                refine x_tableIn (off := 61) 108 dX6_letter_47 (by rw [hc27]; decide) (by rw [hc27]; decide) (by rw [hc27]; rfl) rfl ?_
                refine x_aload dX6_letter_108 0 rfl ?_
                obtain ⟨hk28, hw⟩ := hw
                refine x_get (ci := 1) (k := 7) (v := .int (xh_I σ 71 a15)) dX6_letter_110 wF_X6_213 (Nat.le_of_ble_eq_true rfl) (Nat.le_of_ble_eq_true rfl) hk28 rfl ?_
                refine x_if_eq 124 dX6_letter_113 rfl (fun hc29 => ?_) (fun hc29 => ?_)
                · replace hw := hw.1 hc29
                  refine x_aload dX6_letter_124 0 rfl ?_
                  refine x_get (ci := 1) (k := 1) (v := .int (xh_I σ 65 a15)) dX6_letter_126 wF_X6_219 (Nat.le_of_ble_eq_true rfl) (Nat.le_of_ble_eq_true rfl) hk28 rfl ?_
                  exact x_sub [2] rfl (xb_X6_letter_129 hW hw)
                · replace hw := hw.2 hc29
                  refine x_aload dX6_letter_116 0 rfl ?_
                  refine x_get (ci := 1) (k := 8) (v := .int (xh_I σ 72 a15)) dX6_letter_118 wF_X6_216 (Nat.le_of_ble_eq_true rfl) (Nat.le_of_ble_eq_true rfl) hk28 rfl ?_
                  refine x_goto 129 dX6_letter_121 rfl ?_
                  exact x_sub [2] rfl (xb_X6_letter_129 hW hw)
              · replace hw := hw.2 hc27
                by_cases hc30 : l4 = 3
                · replace hw := hw.1 hc30
                  refine x_tableIn (off := 83) 130 dX6_letter_47 (by rw [hc30]; decide) (by rw [hc30]; decide) (by rw [hc30]; rfl) rfl ?_
                  refine x_aload dX6_letter_130 0 rfl ?_
                  obtain ⟨hk31, hw⟩ := hw
                  refine x_get (ci := 1) (k := 7) (v := .int (xh_I σ 71 a15)) dX6_letter_132 wF_X6_213 (Nat.le_of_ble_eq_true rfl) (Nat.le_of_ble_eq_true rfl) hk31 rfl ?_
                  refine x_if_eq 146 dX6_letter_135 rfl (fun hc32 => ?_) (fun hc32 => ?_)
                  · replace hw := hw.1 hc32
                    refine x_aload dX6_letter_146 0 rfl ?_
                    refine x_get (ci := 1) (k := 2) (v := .int (xh_I σ 66 a15)) dX6_letter_148 wF_X6_225 (Nat.le_of_ble_eq_true rfl) (Nat.le_of_ble_eq_true rfl) hk31 rfl ?_
                    exact x_sub [2] rfl (xb_X6_letter_151 hW hw)
                  · replace hw := hw.2 hc32
                    refine x_aload dX6_letter_138 0 rfl ?_
                    refine x_get (ci := 1) (k := 9) (v := .int (xh_I σ 73 a15)) dX6_letter_140 wF_X6_222 (Nat.le_of_ble_eq_true rfl) (Nat.le_of_ble_eq_true rfl) hk31 rfl ?_
                    refine x_goto 151 dX6_letter_143 rfl ?_
                    exact x_sub [2] rfl (xb_X6_letter_151 hW hw)
                · replace hw := hw.2 hc30
                  by_cases hc33 : l4 = 4
                  · replace hw := hw.1 hc33
                    refine x_tableIn (off := 105) 152 dX6_letter_47 (by rw [hc33]; decide) (by rw [hc33]; decide) (by rw [hc33]; rfl) rfl ?_
                    refine x_aload dX6_letter_152 0 rfl ?_
                    obtain ⟨hk34, hw⟩ := hw
                    refine x_get (ci := 1) (k := 7) (v := .int (xh_I σ 71 a15)) dX6_letter_154 wF_X6_213 (Nat.le_of_ble_eq_true rfl) (Nat.le_of_ble_eq_true rfl) hk34 rfl ?_
                    refine x_if_ne 168 dX6_letter_157 rfl (fun hc35 => ?_) (fun hc35 => ?_)
                    · replace hw := hw.2 hc35
                      exact x_sub [2] rfl (xb_X6_letter_168 hW hw)
                    · replace hw := hw.1 hc35
                      refine x_aload dX6_letter_160 0 rfl ?_
                      refine x_get (ci := 1) (k := 4) (v := va_rf (xh_R σ 68 a15)) dX6_letter_162 wF_X6_118 (Nat.le_of_ble_eq_true rfl) (Nat.le_of_ble_eq_true rfl) hk34 rfl ?_
                      refine x_ifnonnull 173 dX6_letter_165 rfl (fun hn36 => ?_) (fun a37 hs38 => ?_)
                      · replace hw := hw.1 hn36
                        exact x_sub [2] rfl (xb_X6_letter_168 hW hw)
                      · replace hw := hw.2 a37 hs38
                        refine x_aload dX6_letter_173 0 rfl ?_
                        refine x_get (ci := 1) (k := 4) (v := .ref a37) dX6_letter_175 wF_X6_118 (Nat.le_of_ble_eq_true rfl) (Nat.le_of_ble_eq_true rfl) hk34 (congrArg va_rf hs38) ?_
                        obtain ⟨hk39, hw⟩ := hw
                        refine x_get (ci := 3) (k := 0) (v := .int (xh_I σ 192 a37)) dX6_letter_178 wF_X6_91 (Nat.le_of_ble_eq_true rfl) (Nat.le_of_ble_eq_true rfl) hk39 rfl ?_
                        exact x_sub [2] rfl (xb_X6_letter_181 hW hw)
                  · replace hw := hw.2 hc33
                    refine x_tableOut 182 dX6_letter_47 (xsw_0_4 hc17 hc21 hc27 hc30 hc33) rfl ?_
                    refine x_aload dX6_letter_182 0 rfl ?_
                    obtain ⟨hk40, hw⟩ := hw
                    refine x_get (ci := 1) (k := 7) (v := .int (xh_I σ 71 a15)) dX6_letter_184 wF_X6_213 (Nat.le_of_ble_eq_true rfl) (Nat.le_of_ble_eq_true rfl) hk40 rfl ?_
                    refine x_if_ne 198 dX6_letter_187 rfl (fun hc41 => ?_) (fun hc41 => ?_)
                    · replace hw := hw.2 hc41
                      exact x_sub [2] rfl (xb_X6_letter_198 hW hw)
                    · replace hw := hw.1 hc41
                      refine x_aload dX6_letter_190 0 rfl ?_
                      refine x_get (ci := 1) (k := 5) (v := va_rf (xh_R σ 69 a15)) dX6_letter_192 wF_X6_121 (Nat.le_of_ble_eq_true rfl) (Nat.le_of_ble_eq_true rfl) hk40 rfl ?_
                      refine x_ifnonnull 203 dX6_letter_195 rfl (fun hn42 => ?_) (fun a43 hs44 => ?_)
                      · replace hw := hw.1 hn42
                        exact x_sub [2] rfl (xb_X6_letter_198 hW hw)
                      · replace hw := hw.2 a43 hs44
                        refine x_aload dX6_letter_203 0 rfl ?_
                        refine x_get (ci := 1) (k := 5) (v := .ref a43) dX6_letter_205 wF_X6_121 (Nat.le_of_ble_eq_true rfl) (Nat.le_of_ble_eq_true rfl) hk40 (congrArg va_rf hs44) ?_
                        obtain ⟨hk45, hw⟩ := hw
                        refine x_get (ci := 2) (k := 0) (v := .int (xh_I σ 128 a43)) dX6_letter_208 wF_X6_139 (Nat.le_of_ble_eq_true rfl) (Nat.le_of_ble_eq_true rfl) hk45 rfl ?_
                        exact x_sub [2] rfl (xb_X6_letter_211 hW hw)
      · replace hw := hw.2 hc7
        exact x_sub [1] rfl (xb_X6_letter_24 hW hw)
-- PromiseWire.movedBy(LPromiseWire$Wire;)J
def wb_X6_movedBy_59 (Q : Int64 → Prop) (σ : xS) (l1 : Int64) : Prop := Q l1
set_option maxRecDepth 100000 in
set_option maxHeartbeats 4000000 in
theorem xb_X6_movedBy_59 {Q : Int64 → Prop} {σ : xS}  {l1 : Int64}  (hw : wb_X6_movedBy_59 Q σ l1) : xX M_X6_movedBy 59 [(1, .long l1)] [] σ (xqL (fun r σ2 => σ = σ2 ∧ Q r )) := by
  unfold wb_X6_movedBy_59 at hw
  refine x_lload_n dX6_movedBy_59 rfl 0 rfl ?_
  exact x_lret dX6_movedBy_60 rfl ⟨l1, rfl, rfl, hw⟩
def wb_X6_movedBy_46 (Q : Int64 → Prop) (K13 : Nat → Int64 → Option Nat → Int32 → Prop) (σ : xS) (l0 : Nat) (l3 : Nat) (l4 : Int32) (s0 : Int64) (s1 : Int64) : Prop := xh_k σ l3 = 2 ∧ (K13 l0 (s0 + s1) (xh_R σ 76 l3) (l4 + 1))
set_option maxRecDepth 100000 in
set_option maxHeartbeats 4000000 in
theorem xb_X6_movedBy_46 {Q : Int64 → Prop} {K13 : Nat → Int64 → Option Nat → Int32 → Prop} {σ : xS}  {l0 : Nat} {l3 : Nat} {l4 : Int32} {s0 : Int64} {s1 : Int64}  (hK13 : ∀ (l0 : Nat) (l1 : Int64) (l3 : Option Nat) (l4 : Int32), K13 l0 l1 l3 l4 → xX M_X6_movedBy 13 [(0, .ref l0), (1, .long l1), (3, va_rf l3), (4, .int l4)] [] σ (xqL (fun r σ2 => σ = σ2 ∧ Q r ))) (hw : wb_X6_movedBy_46 Q K13 σ l0 l3 l4 s0 s1) : xX M_X6_movedBy 46 [(0, .ref l0), (3, .ref l3), (4, .int l4)] [.long s1, .long s0] σ (xqL (fun r σ2 => σ = σ2 ∧ Q r )) := by
  unfold wb_X6_movedBy_46 at hw
  refine x_ladd dX6_movedBy_46 ?_
  refine x_lstore_n [(1, .long (s0 + s1)), (0, .ref l0), (3, .ref l3), (4, .int l4)] dX6_movedBy_47 rfl (Nat.le_of_ble_eq_true rfl) rfl ?_
  refine x_aload_n dX6_movedBy_48 rfl 2 rfl ?_
  obtain ⟨hk1, hw⟩ := hw
  refine x_get (ci := 1) (k := 12) (v := va_rf (xh_R σ 76 l3)) dX6_movedBy_49 wF_X6_381 (Nat.le_of_ble_eq_true rfl) (Nat.le_of_ble_eq_true rfl) hk1 rfl ?_
  refine x_astore_nQ [(3, va_rf (xh_R σ 76 l3)), (1, .long (s0 + s1)), (0, .ref l0), (4, .int l4)] dX6_movedBy_52 rfl (Nat.le_of_ble_eq_true rfl) rfl ?_
  refine x_iinc [(4, .int (l4 + 1)), (3, va_rf (xh_R σ 76 l3)), (1, .long (s0 + s1)), (0, .ref l0)] dX6_movedBy_53 3 rfl (congrArg _ cI_1) (Nat.le_of_ble_eq_true rfl) (by simp [xcat, xcatI, xcatR, xcatL, xcatN]) ?_
  refine x_goto 13 dX6_movedBy_56 rfl ?_
  exact x_sub [3, 2, 1, 0] rfl (hK13 _ _ _ _ hw)
def wb_X6_movedBy_13 (Q : Int64 → Prop) (σ : xS) : Nat → Nat → Int64 → Option Nat → Int32 → Prop
  | 0, _, _, _, _ => False
  | n + 1, l0, l1, l3, l4 => xh_k σ l0 = 6 ∧ ∃ r3, xh_R σ 322 l0 = some r3 ∧ (xh_k σ r3 = 1 ∧ (((xh_I σ 2 r3) ≤ l4 → wb_X6_movedBy_59 Q σ l1) ∧ (¬ (xh_I σ 2 r3) ≤ l4 → (l3 = none → wb_X6_movedBy_59 Q σ l1) ∧ (∀ a8, l3 = some a8 → xh_k σ a8 = 2 ∧ ((xh_R σ 70 a8 = none → wb_X6_movedBy_46 Q (fun l0 l1 l3 l4 => wb_X6_movedBy_13 Q σ n l0 l1 l3 l4) σ l0 a8 l4 l1 0) ∧ (∀ a12, xh_R σ 70 a8 = some a12 → wb_X6_movedBy_46 Q (fun l0 l1 l3 l4 => wb_X6_movedBy_13 Q σ n l0 l1 l3 l4) σ l0 a8 l4 l1 ((xh_I σ 66 a8).toInt64)))))))
set_option maxRecDepth 100000 in
set_option maxHeartbeats 4000000 in
theorem xl_X6_movedBy_13 {Q : Int64 → Prop} {σ : xS}   : ∀ (n : Nat) (l0 : Nat) (l1 : Int64) (l3 : Option Nat) (l4 : Int32), wb_X6_movedBy_13 Q σ n l0 l1 l3 l4 → xX M_X6_movedBy 13 [(0, .ref l0), (1, .long l1), (3, va_rf l3), (4, .int l4)] [] σ (xqL (fun r σ2 => σ = σ2 ∧ Q r )) := by
  intro n
  induction n with
  | zero => intro l0 l1 l3 l4 hw; exact False.elim hw
  | succ n ih =>
    intro l0 l1 l3 l4 hw
    unfold wb_X6_movedBy_13 at hw
    refine x_iload dX6_movedBy_13 3 rfl ?_
    refine x_aload_n dX6_movedBy_15 rfl 0 rfl ?_
    obtain ⟨hk2, hw⟩ := hw
    obtain ⟨r3, hr4, hw⟩ := hw
    refine x_get (ci := 5) (k := 2) (v := .ref r3) dX6_movedBy_16 wF_X6_200 (Nat.le_of_ble_eq_true rfl) (Nat.le_of_ble_eq_true rfl) hk2 (congrArg va_rf hr4) ?_
    obtain ⟨hk5, hw⟩ := hw
    refine x_get (ci := 0) (k := 2) (v := .int (xh_I σ 2 r3)) dX6_movedBy_19 wF_X6_100 (Nat.le_of_ble_eq_true rfl) (Nat.le_of_ble_eq_true rfl) hk5 rfl ?_
    refine x_icmp_ge 59 dX6_movedBy_22 rfl (fun hc6 => ?_) (fun hc6 => ?_)
    · replace hw := hw.1 hc6
      exact x_sub [1] rfl (xb_X6_movedBy_59 hw)
    · replace hw := hw.2 hc6
      refine x_aload_nQ dX6_movedBy_25 rfl 2 rfl ?_
      refine x_ifnull 59 dX6_movedBy_26 rfl (fun hn7 => ?_) (fun a8 hs9 => ?_)
      · replace hw := hw.1 hn7
        exact x_sub [1] rfl (xb_X6_movedBy_59 hw)
      · replace hw := hw.2 a8 hs9
        refine x_lvS 2 (lv2 := [(0, .ref l0), (1, .long l1), (3, .ref a8), (4, .int l4)]) rfl hs9 rfl ?_
        refine x_lload_n dX6_movedBy_29 rfl 1 rfl ?_
        refine x_aload_n dX6_movedBy_30 rfl 2 rfl ?_
        obtain ⟨hk10, hw⟩ := hw
        refine x_get (ci := 1) (k := 6) (v := va_rf (xh_R σ 70 a8)) dX6_movedBy_31 wF_X6_290 (Nat.le_of_ble_eq_true rfl) (Nat.le_of_ble_eq_true rfl) hk10 rfl ?_
        refine x_ifnonnull 41 dX6_movedBy_34 rfl (fun hn11 => ?_) (fun a12 hs13 => ?_)
        · replace hw := hw.1 hn11
          refine x_lconst dX6_movedBy_37 cL_0 ?_
          refine x_goto 46 dX6_movedBy_38 rfl ?_
          exact x_sub [0, 2, 3] rfl (xb_X6_movedBy_46 ih hw)
        · replace hw := hw.2 a12 hs13
          refine x_aload_n dX6_movedBy_41 rfl 2 rfl ?_
          refine x_get (ci := 1) (k := 2) (v := .int (xh_I σ 66 a8)) dX6_movedBy_42 wF_X6_225 (Nat.le_of_ble_eq_true rfl) (Nat.le_of_ble_eq_true rfl) hk10 rfl ?_
          refine x_i2l dX6_movedBy_45 ?_
          exact x_sub [0, 2, 3] rfl (xb_X6_movedBy_46 ih hw)
def wp_X6_movedBy (σ : xS) (l0 : Nat) (Q : Int64 → Prop) : Prop := xh_k σ l0 = 6 ∧ ∃ r15, xh_R σ 322 l0 = some r15 ∧ (xh_k σ r15 = 1 ∧ (∃ m13, wb_X6_movedBy_13 Q σ m13 l0 0 (xh_R σ 0 r15) 0))
set_option maxRecDepth 100000 in
set_option maxHeartbeats 4000000 in
theorem ct_X6_movedBy {σ : xS}  {l0 : Nat} {Q : Int64 → Prop} (hw : wp_X6_movedBy σ l0 Q) : xCt M_X6_movedBy [.ref l0] σ (xqL (fun r σ2 => σ = σ2 ∧ Q r )) := by
  refine xCt_ofL (lv := [(0, .ref l0)]) pn_X6 (Nat.le_of_ble_eq_true rfl) rfl ?_
  unfold wp_X6_movedBy at hw
  refine x_lconst dX6_movedBy_0 cL_0 ?_
  refine x_lstore_n [(1, .long 0), (0, .ref l0)] dX6_movedBy_1 rfl (Nat.le_of_ble_eq_true rfl) rfl ?_
  refine x_aload_n dX6_movedBy_2 rfl 1 rfl ?_
  obtain ⟨hk14, hw⟩ := hw
  obtain ⟨r15, hr16, hw⟩ := hw
  refine x_get (ci := 5) (k := 2) (v := .ref r15) dX6_movedBy_3 wF_X6_200 (Nat.le_of_ble_eq_true rfl) (Nat.le_of_ble_eq_true rfl) hk14 (congrArg va_rf hr16) ?_
  obtain ⟨hk17, hw⟩ := hw
  refine x_get (ci := 0) (k := 0) (v := va_rf (xh_R σ 0 r15)) dX6_movedBy_6 wF_X6_378 (Nat.le_of_ble_eq_true rfl) (Nat.le_of_ble_eq_true rfl) hk17 rfl ?_
  refine x_astore_nQ [(3, va_rf (xh_R σ 0 r15)), (1, .long 0), (0, .ref l0)] dX6_movedBy_9 rfl (Nat.le_of_ble_eq_true rfl) rfl ?_
  refine x_iconst dX6_movedBy_10 cI_0 ?_
  refine x_istore (i := 4) [(4, .int 0), (3, va_rf (xh_R σ 0 r15)), (1, .long 0), (0, .ref l0)] dX6_movedBy_11 (Nat.le_of_ble_eq_true rfl) (by simp [xcat, xcatI, xcatR, xcatL, xcatN]) ?_
  obtain ⟨m13, hw⟩ := hw
  exact x_sub [3, 2, 1, 0] rfl (xl_X6_movedBy_13 m13 _ _ _ _ hw)
-- PromiseWire.purses()J
def wb_X6_purses_82 (Q : Int64 → Prop) (K50 : Int64 → Int32 → Prop) (σ : xS) (a0 : Nat) (l3 : Int32) (s0 : Int64) (s1 : Int64) : Prop := K50 (s0 + s1) (l3 + 1)
set_option maxRecDepth 100000 in
set_option maxHeartbeats 4000000 in
theorem xb_X6_purses_82 {Q : Int64 → Prop} {K50 : Int64 → Int32 → Prop} {σ : xS} {a0 : Nat}  {l3 : Int32} {s0 : Int64} {s1 : Int64} (hW : xw6 σ a0)  (hK50 : ∀ (l1 : Int64) (l3 : Int32), K50 l1 l3 → xX M_X6_purses 50 [(0, .ref a0), (1, .long l1), (3, .int l3)] [] σ (xqL (fun r σ2 => σ = σ2 ∧ Q r ))) (hw : wb_X6_purses_82 Q K50 σ a0 l3 s0 s1) : xX M_X6_purses 82 [(0, .ref a0), (3, .int l3)] [.long s1, .long s0] σ (xqL (fun r σ2 => σ = σ2 ∧ Q r )) := by
  unfold wb_X6_purses_82 at hw
  refine x_ladd dX6_purses_82 ?_
  refine x_lstore_n [(1, .long (s0 + s1)), (0, .ref a0), (3, .int l3)] dX6_purses_83 rfl (Nat.le_of_ble_eq_true rfl) rfl ?_
  refine x_iinc [(3, .int (l3 + 1)), (1, .long (s0 + s1)), (0, .ref a0)] dX6_purses_84 2 rfl (congrArg _ cI_1) (Nat.le_of_ble_eq_true rfl) rfl ?_
  refine x_goto 50 dX6_purses_87 rfl ?_
  exact x_sub [2, 1, 0] rfl (hK50 _ _ hw)
def wb_X6_purses_50 (Q : Int64 → Prop) (σ : xS) (a0 : Nat) : Nat → Int64 → Int32 → Prop
  | 0, _, _ => False
  | n + 1, l1, l3 => ((16 : Int32) ≤ l3 → Q l1) ∧ (¬ (16 : Int32) ≤ l3 → vp_in l3 16 ∧ ((xh_q σ (a0 + 4) l3.toNatClampNeg = none → wb_X6_purses_82 Q (fun l1 l3 => wb_X6_purses_50 Q σ a0 n l1 l3) σ a0 l3 l1 0) ∧ (∀ a4, xh_q σ (a0 + 4) l3.toNatClampNeg = some a4 → vp_in l3 16 ∧ (wp_X6_movedBy σ a4 (fun x7 => wb_X6_purses_82 Q (fun l1 l3 => wb_X6_purses_50 Q σ a0 n l1 l3) σ a0 l3 l1 x7)))))
set_option maxRecDepth 100000 in
set_option maxHeartbeats 4000000 in
theorem xl_X6_purses_50 {Q : Int64 → Prop} {σ : xS} {a0 : Nat}  (hW : xw6 σ a0)  : ∀ (n : Nat) (l1 : Int64) (l3 : Int32), wb_X6_purses_50 Q σ a0 n l1 l3 → xX M_X6_purses 50 [(0, .ref a0), (1, .long l1), (3, .int l3)] [] σ (xqL (fun r σ2 => σ = σ2 ∧ Q r )) := by
  intro n
  induction n with
  | zero => intro l1 l3 hw; exact False.elim hw
  | succ n ih =>
    intro l1 l3 hw
    unfold wb_X6_purses_50 at hw
    refine x_iload_n dX6_purses_50 rfl 2 rfl ?_
    refine x_aload_n dX6_purses_51 rfl 0 rfl ?_
    refine x_get (ci := 6) (k := 3) (v := .ref (a0 + 4)) dX6_purses_52 wF_X6_29 (Nat.le_of_ble_eq_true rfl) (Nat.le_of_ble_eq_true rfl) hW.1 (congrArg va_rf (w6r_4 hW)) ?_
    refine x_alenZ (t := 5) (v := 16) dX6_purses_55 (w6k_4 hW) (Nat.le_of_ble_eq_true rfl) (w6z_4 hW) rfl ?_
    refine x_icmp_ge 90 dX6_purses_56 rfl (fun hc1 => ?_) (fun hc1 => ?_)
    · replace hw := hw.1 hc1
      refine x_lload_n dX6_purses_90 rfl 1 rfl ?_
      exact x_lret dX6_purses_91 rfl ⟨l1, rfl, rfl, hw⟩
    · replace hw := hw.2 hc1
      refine x_lload_n dX6_purses_59 rfl 1 rfl ?_
      refine x_aload_n dX6_purses_60 rfl 0 rfl ?_
      refine x_get (ci := 6) (k := 3) (v := .ref (a0 + 4)) dX6_purses_61 wF_X6_29 (Nat.le_of_ble_eq_true rfl) (Nat.le_of_ble_eq_true rfl) hW.1 (congrArg va_rf (w6r_4 hW)) ?_
      refine x_iload_n dX6_purses_64 rfl 2 rfl ?_
      obtain ⟨hv2, hw⟩ := hw
      refine x_aaldZ (t := 3) dX6_purses_65 (w6k_4 hW) (Nat.le_of_ble_eq_true rfl) (w6z_4 hW) hv2 ?_
      refine x_ifnonnull 73 dX6_purses_66 rfl (fun hn3 => ?_) (fun a4 hs5 => ?_)
      · replace hw := hw.1 hn3
        refine x_lconst dX6_purses_69 cL_0 ?_
        refine x_goto 82 dX6_purses_70 rfl ?_
        exact x_sub [0, 2] rfl (xb_X6_purses_82 hW ih hw)
      · replace hw := hw.2 a4 hs5
        refine x_aload_n dX6_purses_73 rfl 0 rfl ?_
        refine x_get (ci := 6) (k := 3) (v := .ref (a0 + 4)) dX6_purses_74 wF_X6_29 (Nat.le_of_ble_eq_true rfl) (Nat.le_of_ble_eq_true rfl) hW.1 (congrArg va_rf (w6r_4 hW)) ?_
        refine x_iload_n dX6_purses_77 rfl 2 rfl ?_
        obtain ⟨hv6, hw⟩ := hw
        refine x_aaldZ (t := 3) dX6_purses_78 (w6k_4 hW) (Nat.le_of_ble_eq_true rfl) (w6z_4 hW) hv6 ?_
        refine x_top hs5 ?_
        refine x_callS (M2 := M_X6_movedBy) (As := [.ref a4]) (st := [.long l1]) wM_X6_231 wZ_X6_movedBy dX6_purses_79 rfl ok_X6_movedBy ⟨(Nat.le_of_ble_eq_true rfl), (Nat.le_of_ble_eq_true rfl)⟩ (Nat.le_of_ble_eq_true rfl) (ct_X6_movedBy hw) (xqL.k (fun x7 τ8 hw2 => ?_))
        obtain ⟨he, hw⟩ := hw2
        subst he
        exact x_sub [0, 2] rfl (xb_X6_purses_82 hW ih hw)
def wb_X6_purses_42 (Q : Int64 → Prop) (K4 : Int64 → Int32 → Prop) (σ : xS) (a0 : Nat) (l1 : Int64) (l3 : Int32) : Prop := K4 l1 (l3 + 1)
set_option maxRecDepth 100000 in
set_option maxHeartbeats 4000000 in
theorem xb_X6_purses_42 {Q : Int64 → Prop} {K4 : Int64 → Int32 → Prop} {σ : xS} {a0 : Nat}  {l1 : Int64} {l3 : Int32} (hW : xw6 σ a0)  (hK4 : ∀ (l1 : Int64) (l3 : Int32), K4 l1 l3 → xX M_X6_purses 4 [(0, .ref a0), (1, .long l1), (3, .int l3)] [] σ (xqL (fun r σ2 => σ = σ2 ∧ Q r ))) (hw : wb_X6_purses_42 Q K4 σ a0 l1 l3) : xX M_X6_purses 42 [(0, .ref a0), (1, .long l1), (3, .int l3)] [] σ (xqL (fun r σ2 => σ = σ2 ∧ Q r )) := by
  unfold wb_X6_purses_42 at hw
  refine x_iinc [(3, .int (l3 + 1)), (0, .ref a0), (1, .long l1)] dX6_purses_42 2 rfl (congrArg _ cI_1) (Nat.le_of_ble_eq_true rfl) rfl ?_
  refine x_goto 4 dX6_purses_45 rfl ?_
  exact x_sub [1, 2, 0] rfl (hK4 _ _ hw)
def wb_X6_purses_4 (Q : Int64 → Prop) (σ : xS) (a0 : Nat) : Nat → Int64 → Int32 → Prop
  | 0, _, _ => False
  | n + 1, l1, l3 => ((xh_I σ 389 a0) ≤ l3 → ∃ m50, wb_X6_purses_50 Q σ a0 m50 l1 0) ∧ (¬ (xh_I σ 389 a0) ≤ l3 → wp_X6_thingAt σ a0 l3 (fun x10 => (x10 = none → wb_X6_purses_42 Q (fun l1 l3 => wb_X6_purses_4 Q σ a0 n l1 l3) σ a0 l1 l3) ∧ (∀ a13, x10 = some a13 → xh_k σ a13 = 4 ∧ (((xh_I σ 194 a13) = 1 → wb_X6_purses_42 Q (fun l1 l3 => wb_X6_purses_4 Q σ a0 n l1 l3) σ a0 (l1 + ((xh_I σ 198 a13).toInt64)) l3) ∧ (¬ (xh_I σ 194 a13) = 1 → wb_X6_purses_42 Q (fun l1 l3 => wb_X6_purses_4 Q σ a0 n l1 l3) σ a0 l1 l3)))))
set_option maxRecDepth 100000 in
set_option maxHeartbeats 4000000 in
theorem xl_X6_purses_4 {Q : Int64 → Prop} {σ : xS} {a0 : Nat}  (hW : xw6 σ a0)  : ∀ (n : Nat) (l1 : Int64) (l3 : Int32), wb_X6_purses_4 Q σ a0 n l1 l3 → xX M_X6_purses 4 [(0, .ref a0), (1, .long l1), (3, .int l3)] [] σ (xqL (fun r σ2 => σ = σ2 ∧ Q r )) := by
  intro n
  induction n with
  | zero => intro l1 l3 hw; exact False.elim hw
  | succ n ih =>
    intro l1 l3 hw
    unfold wb_X6_purses_4 at hw
    refine x_iload_n dX6_purses_4 rfl 2 rfl ?_
    refine x_aload_n dX6_purses_5 rfl 0 rfl ?_
    refine x_get (ci := 6) (k := 5) (v := .int (xh_I σ 389 a0)) dX6_purses_6 wF_X6_228 (Nat.le_of_ble_eq_true rfl) (Nat.le_of_ble_eq_true rfl) hW.1 rfl ?_
    refine x_icmp_ge 48 dX6_purses_9 rfl (fun hc9 => ?_) (fun hc9 => ?_)
    · replace hw := hw.1 hc9
      refine x_iconst dX6_purses_48 cI_0 ?_
      refine x_istore_n [(3, .int 0), (0, .ref a0), (1, .long l1)] dX6_purses_49 rfl (Nat.le_of_ble_eq_true rfl) rfl ?_
      obtain ⟨m50, hw⟩ := hw
      exact x_sub [1, 2, 0] rfl (xl_X6_purses_50 hW m50 _ _ hw)
    · replace hw := hw.2 hc9
      refine x_aload_n dX6_purses_12 rfl 0 rfl ?_
      refine x_iload_n dX6_purses_13 rfl 2 rfl ?_
      refine x_callV (M2 := M_X6_thingAt) (As := [.int l3]) (st := []) (ci := 6) (Nat.le_of_ble_eq_true rfl) hW.1 rfl wM_X6_55 wI_X6_thingAt wS_X6_thingAt dX6_purses_14 rfl ok_X6_thingAt ⟨(Nat.le_of_ble_eq_true rfl), (Nat.le_of_ble_eq_true rfl)⟩ (Nat.le_of_ble_eq_true rfl) (ct_X6_thingAt hW hw) (xqR.k (fun x10 τ11 hw2 => ?_))
      obtain ⟨he, hw⟩ := hw2
      subst he
      refine x_astoreQ [(4, va_rf x10), (0, .ref a0), (1, .long l1), (3, .int l3)] dX6_purses_17 (Nat.le_of_ble_eq_true rfl) rfl ?_
      refine x_aloadQ dX6_purses_19 0 rfl ?_
      refine x_ifnull 42 dX6_purses_21 rfl (fun hn12 => ?_) (fun a13 hs14 => ?_)
      · replace hw := hw.1 hn12
        exact x_sub [1, 2, 3] rfl (xb_X6_purses_42 hW ih hw)
      · replace hw := hw.2 a13 hs14
        refine x_lvS 0 (lv2 := [(4, .ref a13), (0, .ref a0), (1, .long l1), (3, .int l3)]) rfl hs14 rfl ?_
        refine x_aload dX6_purses_24 0 rfl ?_
        obtain ⟨hk15, hw⟩ := hw
        refine x_get (ci := 3) (k := 2) (v := .int (xh_I σ 194 a13)) dX6_purses_26 wF_X6_59 (Nat.le_of_ble_eq_true rfl) (Nat.le_of_ble_eq_true rfl) hk15 rfl ?_
        refine x_iconst dX6_purses_29 cI_1 ?_
        refine x_icmp_ne 42 dX6_purses_30 rfl (fun hc16 => ?_) (fun hc16 => ?_)
        · replace hw := hw.2 hc16
          exact x_sub [1, 2, 3] rfl (xb_X6_purses_42 hW ih hw)
        · replace hw := hw.1 hc16
          refine x_lload_n dX6_purses_33 rfl 2 rfl ?_
          refine x_aload dX6_purses_34 0 rfl ?_
          refine x_get (ci := 3) (k := 6) (v := .int (xh_I σ 198 a13)) dX6_purses_36 wF_X6_84 (Nat.le_of_ble_eq_true rfl) (Nat.le_of_ble_eq_true rfl) hk15 rfl ?_
          refine x_i2l dX6_purses_39 ?_
          refine x_ladd dX6_purses_40 ?_
          refine x_lstore_n [(1, .long (l1 + ((xh_I σ 198 a13).toInt64))), (4, .ref a13), (0, .ref a0), (3, .int l3)] dX6_purses_41 rfl (Nat.le_of_ble_eq_true rfl) rfl ?_
          exact x_sub [2, 0, 3] rfl (xb_X6_purses_42 hW ih hw)
def wp_X6_purses (σ : xS) (a0 : Nat) (Q : Int64 → Prop) : Prop := ∃ m4, wb_X6_purses_4 Q σ a0 m4 0 0
set_option maxRecDepth 100000 in
set_option maxHeartbeats 4000000 in
theorem ct_X6_purses {σ : xS} {a0 : Nat}  {Q : Int64 → Prop} (hW : xw6 σ a0) (hw : wp_X6_purses σ a0 Q) : xCt M_X6_purses [.ref a0] σ (xqL (fun r σ2 => σ = σ2 ∧ Q r )) := by
  refine xCt_ofL (lv := [(0, .ref a0)]) pn_X6 (Nat.le_of_ble_eq_true rfl) rfl ?_
  unfold wp_X6_purses at hw
  refine x_lconst dX6_purses_0 cL_0 ?_
  refine x_lstore_n [(1, .long 0), (0, .ref a0)] dX6_purses_1 rfl (Nat.le_of_ble_eq_true rfl) rfl ?_
  refine x_iconst dX6_purses_2 cI_0 ?_
  refine x_istore_n [(3, .int 0), (1, .long 0), (0, .ref a0)] dX6_purses_3 rfl (Nat.le_of_ble_eq_true rfl) rfl ?_
  obtain ⟨m4, hw⟩ := hw
  exact x_sub [2, 1, 0] rfl (xl_X6_purses_4 hW m4 _ _ hw)
-- PromiseWire.openAtHome()I
def wb_X6_openAtHome_35 (Q : Int32 → Prop) (K4 : Int32 → Int32 → Prop) (σ : xS) (a0 : Nat) (l2 : Int32) (s0 : Int32) (s1 : Int32) : Prop := wp_X6_oneIf σ s1 (fun x1 => K4 (s0 + x1) (l2 + 1))
set_option maxRecDepth 100000 in
set_option maxHeartbeats 4000000 in
theorem xb_X6_openAtHome_35 {Q : Int32 → Prop} {K4 : Int32 → Int32 → Prop} {σ : xS} {a0 : Nat}  {l2 : Int32} {s0 : Int32} {s1 : Int32} (hW : xw6 σ a0)  (hK4 : ∀ (l1 : Int32) (l2 : Int32), K4 l1 l2 → xX M_X6_openAtHome 4 [(0, .ref a0), (1, .int l1), (2, .int l2)] [] σ (xqI (fun r σ2 => σ = σ2 ∧ Q r ))) (hw : wb_X6_openAtHome_35 Q K4 σ a0 l2 s0 s1) : xX M_X6_openAtHome 35 [(0, .ref a0), (2, .int l2)] [.int s1, .int s0] σ (xqI (fun r σ2 => σ = σ2 ∧ Q r )) := by
  unfold wb_X6_openAtHome_35 at hw
  refine x_callS (M2 := M_X6_oneIf) (As := [.int s1]) (st := [.int s0]) wM_X6_67 wZ_X6_oneIf dX6_openAtHome_35 rfl ok_X6_oneIf ⟨(Nat.le_of_ble_eq_true rfl), (Nat.le_of_ble_eq_true rfl)⟩ (Nat.le_of_ble_eq_true rfl) (ct_X6_oneIf hw) (xqI.k (fun x1 τ2 hw2 => ?_))
  obtain ⟨he, hw⟩ := hw2
  subst he
  refine x_iadd dX6_openAtHome_38 ?_
  refine x_istore_n [(1, .int (s0 + x1)), (0, .ref a0), (2, .int l2)] dX6_openAtHome_39 rfl (Nat.le_of_ble_eq_true rfl) rfl ?_
  refine x_iinc [(2, .int (l2 + 1)), (1, .int (s0 + x1)), (0, .ref a0)] dX6_openAtHome_40 2 rfl (congrArg _ cI_1) (Nat.le_of_ble_eq_true rfl) rfl ?_
  refine x_goto 4 dX6_openAtHome_43 rfl ?_
  exact x_sub [2, 1, 0] rfl (hK4 _ _ hw)
def wb_X6_openAtHome_34 (Q : Int32 → Prop) (K4 : Int32 → Int32 → Prop) (σ : xS) (a0 : Nat) (l2 : Int32) (s0 : Int32) : Prop := wb_X6_openAtHome_35 Q K4 σ a0 l2 s0 0
set_option maxRecDepth 100000 in
set_option maxHeartbeats 4000000 in
theorem xb_X6_openAtHome_34 {Q : Int32 → Prop} {K4 : Int32 → Int32 → Prop} {σ : xS} {a0 : Nat}  {l2 : Int32} {s0 : Int32} (hW : xw6 σ a0)  (hK4 : ∀ (l1 : Int32) (l2 : Int32), K4 l1 l2 → xX M_X6_openAtHome 4 [(0, .ref a0), (1, .int l1), (2, .int l2)] [] σ (xqI (fun r σ2 => σ = σ2 ∧ Q r ))) (hw : wb_X6_openAtHome_34 Q K4 σ a0 l2 s0) : xX M_X6_openAtHome 34 [(0, .ref a0), (2, .int l2)] [.int s0] σ (xqI (fun r σ2 => σ = σ2 ∧ Q r )) := by
  unfold wb_X6_openAtHome_34 at hw
  refine x_iconst dX6_openAtHome_34 cI_0 ?_
  exact x_sub [0, 1] rfl (xb_X6_openAtHome_35 hW hK4 hw)
def wb_X6_openAtHome_4 (Q : Int32 → Prop) (σ : xS) (a0 : Nat) : Nat → Int32 → Int32 → Prop
  | 0, _, _ => False
  | n + 1, l1, l2 => ((xh_I σ 390 a0) ≤ l2 → Q l1) ∧ (¬ (xh_I σ 390 a0) ≤ l2 → wp_X6_promiseAt σ a0 l2 (fun x4 => (x4 = none → wb_X6_openAtHome_34 Q (fun l1 l2 => wb_X6_openAtHome_4 Q σ a0 n l1 l2) σ a0 l2 l1) ∧ (∀ a7, x4 = some a7 → xh_k σ a7 = 3 ∧ (((xh_I σ 133 a7) = 0 → wb_X6_openAtHome_35 Q (fun l1 l2 => wb_X6_openAtHome_4 Q σ a0 n l1 l2) σ a0 l2 l1 1) ∧ (¬ (xh_I σ 133 a7) = 0 → wb_X6_openAtHome_34 Q (fun l1 l2 => wb_X6_openAtHome_4 Q σ a0 n l1 l2) σ a0 l2 l1)))))
set_option maxRecDepth 100000 in
set_option maxHeartbeats 4000000 in
theorem xl_X6_openAtHome_4 {Q : Int32 → Prop} {σ : xS} {a0 : Nat}  (hW : xw6 σ a0)  : ∀ (n : Nat) (l1 : Int32) (l2 : Int32), wb_X6_openAtHome_4 Q σ a0 n l1 l2 → xX M_X6_openAtHome 4 [(0, .ref a0), (1, .int l1), (2, .int l2)] [] σ (xqI (fun r σ2 => σ = σ2 ∧ Q r )) := by
  intro n
  induction n with
  | zero => intro l1 l2 hw; exact False.elim hw
  | succ n ih =>
    intro l1 l2 hw
    unfold wb_X6_openAtHome_4 at hw
    refine x_iload_n dX6_openAtHome_4 rfl 2 rfl ?_
    refine x_aload_n dX6_openAtHome_5 rfl 0 rfl ?_
    refine x_get (ci := 6) (k := 6) (v := .int (xh_I σ 390 a0)) dX6_openAtHome_6 wF_X6_110 (Nat.le_of_ble_eq_true rfl) (Nat.le_of_ble_eq_true rfl) hW.1 rfl ?_
    refine x_icmp_ge 46 dX6_openAtHome_9 rfl (fun hc3 => ?_) (fun hc3 => ?_)
    · replace hw := hw.1 hc3
      refine x_iload_n dX6_openAtHome_46 rfl 1 rfl ?_
      exact x_iret dX6_openAtHome_47 rfl ⟨l1, rfl, rfl, hw⟩
    · replace hw := hw.2 hc3
      refine x_aload_n dX6_openAtHome_12 rfl 0 rfl ?_
      refine x_iload_n dX6_openAtHome_13 rfl 2 rfl ?_
      refine x_callV (M2 := M_X6_promiseAt) (As := [.int l2]) (st := []) (ci := 6) (Nat.le_of_ble_eq_true rfl) hW.1 rfl wM_X6_103 wI_X6_promiseAt wS_X6_promiseAt dX6_openAtHome_14 rfl ok_X6_promiseAt ⟨(Nat.le_of_ble_eq_true rfl), (Nat.le_of_ble_eq_true rfl)⟩ (Nat.le_of_ble_eq_true rfl) (ct_X6_promiseAt hW hw) (xqR.k (fun x4 τ5 hw2 => ?_))
      obtain ⟨he, hw⟩ := hw2
      subst he
      refine x_astore_nQ [(3, va_rf x4), (0, .ref a0), (1, .int l1), (2, .int l2)] dX6_openAtHome_17 rfl (Nat.le_of_ble_eq_true rfl) rfl ?_
      refine x_iload_n dX6_openAtHome_18 rfl 2 rfl ?_
      refine x_aload_nQ dX6_openAtHome_19 rfl 0 rfl ?_
      refine x_ifnull 34 dX6_openAtHome_20 rfl (fun hn6 => ?_) (fun a7 hs8 => ?_)
      · replace hw := hw.1 hn6
        exact x_sub [1, 3] rfl (xb_X6_openAtHome_34 hW ih hw)
      · replace hw := hw.2 a7 hs8
        refine x_lvS 0 (lv2 := [(3, .ref a7), (0, .ref a0), (1, .int l1), (2, .int l2)]) rfl hs8 rfl ?_
        refine x_aload_n dX6_openAtHome_23 rfl 0 rfl ?_
        obtain ⟨hk9, hw⟩ := hw
        refine x_get (ci := 2) (k := 5) (v := .int (xh_I σ 133 a7)) dX6_openAtHome_24 wF_X6_335 (Nat.le_of_ble_eq_true rfl) (Nat.le_of_ble_eq_true rfl) hk9 rfl ?_
        refine x_if_ne 34 dX6_openAtHome_27 rfl (fun hc10 => ?_) (fun hc10 => ?_)
        · replace hw := hw.2 hc10
          exact x_sub [1, 3] rfl (xb_X6_openAtHome_34 hW ih hw)
        · replace hw := hw.1 hc10
          refine x_iconst dX6_openAtHome_30 cI_1 ?_
          refine x_goto 35 dX6_openAtHome_31 rfl ?_
          exact x_sub [1, 3] rfl (xb_X6_openAtHome_35 hW ih hw)
def wp_X6_openAtHome (σ : xS) (a0 : Nat) (Q : Int32 → Prop) : Prop := ∃ m4, wb_X6_openAtHome_4 Q σ a0 m4 0 0
set_option maxRecDepth 100000 in
set_option maxHeartbeats 4000000 in
theorem ct_X6_openAtHome {σ : xS} {a0 : Nat}  {Q : Int32 → Prop} (hW : xw6 σ a0) (hw : wp_X6_openAtHome σ a0 Q) : xCt M_X6_openAtHome [.ref a0] σ (xqI (fun r σ2 => σ = σ2 ∧ Q r )) := by
  refine xCt_ofL (lv := [(0, .ref a0)]) pn_X6 (Nat.le_of_ble_eq_true rfl) rfl ?_
  unfold wp_X6_openAtHome at hw
  refine x_iconst dX6_openAtHome_0 cI_0 ?_
  refine x_istore_n [(1, .int 0), (0, .ref a0)] dX6_openAtHome_1 rfl (Nat.le_of_ble_eq_true rfl) rfl ?_
  refine x_iconst dX6_openAtHome_2 cI_0 ?_
  refine x_istore_n [(2, .int 0), (1, .int 0), (0, .ref a0)] dX6_openAtHome_3 rfl (Nat.le_of_ble_eq_true rfl) rfl ?_
  obtain ⟨m4, hw⟩ := hw
  exact x_sub [2, 1, 0] rfl (xl_X6_openAtHome_4 hW m4 _ _ hw)
-- PromiseWire.lettersUnderWay()I
def wb_X6_lettersUnderWay_39 (Q : Int32 → Prop) (K4 : Int32 → Int32 → Prop) (σ : xS) (a0 : Nat) (l2 : Int32) (s0 : Int32) (s1 : Int32) : Prop := K4 (s0 + s1) (l2 + 1)
set_option maxRecDepth 100000 in
set_option maxHeartbeats 4000000 in
theorem xb_X6_lettersUnderWay_39 {Q : Int32 → Prop} {K4 : Int32 → Int32 → Prop} {σ : xS} {a0 : Nat}  {l2 : Int32} {s0 : Int32} {s1 : Int32} (hW : xw6 σ a0)  (hK4 : ∀ (l1 : Int32) (l2 : Int32), K4 l1 l2 → xX M_X6_lettersUnderWay 4 [(0, .ref a0), (1, .int l1), (2, .int l2)] [] σ (xqI (fun r σ2 => σ = σ2 ∧ Q r ))) (hw : wb_X6_lettersUnderWay_39 Q K4 σ a0 l2 s0 s1) : xX M_X6_lettersUnderWay 39 [(0, .ref a0), (2, .int l2)] [.int s1, .int s0] σ (xqI (fun r σ2 => σ = σ2 ∧ Q r )) := by
  unfold wb_X6_lettersUnderWay_39 at hw
  refine x_iadd dX6_lettersUnderWay_39 ?_
  refine x_istore_n [(1, .int (s0 + s1)), (0, .ref a0), (2, .int l2)] dX6_lettersUnderWay_40 rfl (Nat.le_of_ble_eq_true rfl) rfl ?_
  refine x_iinc [(2, .int (l2 + 1)), (1, .int (s0 + s1)), (0, .ref a0)] dX6_lettersUnderWay_41 2 rfl (congrArg _ cI_1) (Nat.le_of_ble_eq_true rfl) rfl ?_
  refine x_goto 4 dX6_lettersUnderWay_44 rfl ?_
  exact x_sub [2, 1, 0] rfl (hK4 _ _ hw)
def wb_X6_lettersUnderWay_4 (Q : Int32 → Prop) (σ : xS) (a0 : Nat) : Nat → Int32 → Int32 → Prop
  | 0, _, _ => False
  | n + 1, l1, l2 => ((16 : Int32) ≤ l2 → Q l1) ∧ (¬ (16 : Int32) ≤ l2 → vp_in l2 16 ∧ ((xh_q σ (a0 + 4) l2.toNatClampNeg = none → wb_X6_lettersUnderWay_39 Q (fun l1 l2 => wb_X6_lettersUnderWay_4 Q σ a0 n l1 l2) σ a0 l2 l1 0) ∧ (∀ a4, xh_q σ (a0 + 4) l2.toNatClampNeg = some a4 → vp_in l2 16 ∧ (xh_k σ a4 = 6 ∧ ∃ r8, xh_R σ 322 a4 = some r8 ∧ (xh_k σ r8 = 1 ∧ (wb_X6_lettersUnderWay_39 Q (fun l1 l2 => wb_X6_lettersUnderWay_4 Q σ a0 n l1 l2) σ a0 l2 l1 (xh_I σ 2 r8)))))))
set_option maxRecDepth 100000 in
set_option maxHeartbeats 4000000 in
theorem xl_X6_lettersUnderWay_4 {Q : Int32 → Prop} {σ : xS} {a0 : Nat}  (hW : xw6 σ a0)  : ∀ (n : Nat) (l1 : Int32) (l2 : Int32), wb_X6_lettersUnderWay_4 Q σ a0 n l1 l2 → xX M_X6_lettersUnderWay 4 [(0, .ref a0), (1, .int l1), (2, .int l2)] [] σ (xqI (fun r σ2 => σ = σ2 ∧ Q r )) := by
  intro n
  induction n with
  | zero => intro l1 l2 hw; exact False.elim hw
  | succ n ih =>
    intro l1 l2 hw
    unfold wb_X6_lettersUnderWay_4 at hw
    refine x_iload_n dX6_lettersUnderWay_4 rfl 2 rfl ?_
    refine x_aload_n dX6_lettersUnderWay_5 rfl 0 rfl ?_
    refine x_get (ci := 6) (k := 3) (v := .ref (a0 + 4)) dX6_lettersUnderWay_6 wF_X6_29 (Nat.le_of_ble_eq_true rfl) (Nat.le_of_ble_eq_true rfl) hW.1 (congrArg va_rf (w6r_4 hW)) ?_
    refine x_alenZ (t := 5) (v := 16) dX6_lettersUnderWay_9 (w6k_4 hW) (Nat.le_of_ble_eq_true rfl) (w6z_4 hW) rfl ?_
    refine x_icmp_ge 47 dX6_lettersUnderWay_10 rfl (fun hc1 => ?_) (fun hc1 => ?_)
    · replace hw := hw.1 hc1
      refine x_iload_n dX6_lettersUnderWay_47 rfl 1 rfl ?_
      exact x_iret dX6_lettersUnderWay_48 rfl ⟨l1, rfl, rfl, hw⟩
    · replace hw := hw.2 hc1
      refine x_iload_n dX6_lettersUnderWay_13 rfl 1 rfl ?_
      refine x_aload_n dX6_lettersUnderWay_14 rfl 0 rfl ?_
      refine x_get (ci := 6) (k := 3) (v := .ref (a0 + 4)) dX6_lettersUnderWay_15 wF_X6_29 (Nat.le_of_ble_eq_true rfl) (Nat.le_of_ble_eq_true rfl) hW.1 (congrArg va_rf (w6r_4 hW)) ?_
      refine x_iload_n dX6_lettersUnderWay_18 rfl 2 rfl ?_
      obtain ⟨hv2, hw⟩ := hw
      refine x_aaldZ (t := 3) dX6_lettersUnderWay_19 (w6k_4 hW) (Nat.le_of_ble_eq_true rfl) (w6z_4 hW) hv2 ?_
      refine x_ifnonnull 27 dX6_lettersUnderWay_20 rfl (fun hn3 => ?_) (fun a4 hs5 => ?_)
      · replace hw := hw.1 hn3
        refine x_iconst dX6_lettersUnderWay_23 cI_0 ?_
        refine x_goto 39 dX6_lettersUnderWay_24 rfl ?_
        exact x_sub [0, 2] rfl (xb_X6_lettersUnderWay_39 hW ih hw)
      · replace hw := hw.2 a4 hs5
        refine x_aload_n dX6_lettersUnderWay_27 rfl 0 rfl ?_
        refine x_get (ci := 6) (k := 3) (v := .ref (a0 + 4)) dX6_lettersUnderWay_28 wF_X6_29 (Nat.le_of_ble_eq_true rfl) (Nat.le_of_ble_eq_true rfl) hW.1 (congrArg va_rf (w6r_4 hW)) ?_
        refine x_iload_n dX6_lettersUnderWay_31 rfl 2 rfl ?_
        obtain ⟨hv6, hw⟩ := hw
        refine x_aaldZ (t := 3) dX6_lettersUnderWay_32 (w6k_4 hW) (Nat.le_of_ble_eq_true rfl) (w6z_4 hW) hv6 ?_
        refine x_top hs5 ?_
        obtain ⟨hk7, hw⟩ := hw
        obtain ⟨r8, hr9, hw⟩ := hw
        refine x_get (ci := 5) (k := 2) (v := .ref r8) dX6_lettersUnderWay_33 wF_X6_200 (Nat.le_of_ble_eq_true rfl) (Nat.le_of_ble_eq_true rfl) hk7 (congrArg va_rf hr9) ?_
        obtain ⟨hk10, hw⟩ := hw
        refine x_get (ci := 0) (k := 2) (v := .int (xh_I σ 2 r8)) dX6_lettersUnderWay_36 wF_X6_100 (Nat.le_of_ble_eq_true rfl) (Nat.le_of_ble_eq_true rfl) hk10 rfl ?_
        exact x_sub [0, 2] rfl (xb_X6_lettersUnderWay_39 hW ih hw)
def wp_X6_lettersUnderWay (σ : xS) (a0 : Nat) (Q : Int32 → Prop) : Prop := ∃ m4, wb_X6_lettersUnderWay_4 Q σ a0 m4 0 0
set_option maxRecDepth 100000 in
set_option maxHeartbeats 4000000 in
theorem ct_X6_lettersUnderWay {σ : xS} {a0 : Nat}  {Q : Int32 → Prop} (hW : xw6 σ a0) (hw : wp_X6_lettersUnderWay σ a0 Q) : xCt M_X6_lettersUnderWay [.ref a0] σ (xqI (fun r σ2 => σ = σ2 ∧ Q r )) := by
  refine xCt_ofL (lv := [(0, .ref a0)]) pn_X6 (Nat.le_of_ble_eq_true rfl) rfl ?_
  unfold wp_X6_lettersUnderWay at hw
  refine x_iconst dX6_lettersUnderWay_0 cI_0 ?_
  refine x_istore_n [(1, .int 0), (0, .ref a0)] dX6_lettersUnderWay_1 rfl (Nat.le_of_ble_eq_true rfl) rfl ?_
  refine x_iconst dX6_lettersUnderWay_2 cI_0 ?_
  refine x_istore_n [(2, .int 0), (1, .int 0), (0, .ref a0)] dX6_lettersUnderWay_3 rfl (Nat.le_of_ble_eq_true rfl) rfl ?_
  obtain ⟨m4, hw⟩ := hw
  exact x_sub [2, 1, 0] rfl (xl_X6_lettersUnderWay_4 hW m4 _ _ hw)
-- PromiseWire.wiresCut()I
def wb_X6_wiresCut_48 (Q : Int32 → Prop) (K4 : Int32 → Int32 → Prop) (σ : xS) (a0 : Nat) (l2 : Int32) (s0 : Int32) (s1 : Int32) : Prop := wp_X6_oneIf σ s1 (fun x1 => K4 (s0 + x1) (l2 + 1))
set_option maxRecDepth 100000 in
set_option maxHeartbeats 4000000 in
theorem xb_X6_wiresCut_48 {Q : Int32 → Prop} {K4 : Int32 → Int32 → Prop} {σ : xS} {a0 : Nat}  {l2 : Int32} {s0 : Int32} {s1 : Int32} (hW : xw6 σ a0)  (hK4 : ∀ (l1 : Int32) (l2 : Int32), K4 l1 l2 → xX M_X6_wiresCut 4 [(0, .ref a0), (1, .int l1), (2, .int l2)] [] σ (xqI (fun r σ2 => σ = σ2 ∧ Q r ))) (hw : wb_X6_wiresCut_48 Q K4 σ a0 l2 s0 s1) : xX M_X6_wiresCut 48 [(0, .ref a0), (2, .int l2)] [.int s1, .int s0] σ (xqI (fun r σ2 => σ = σ2 ∧ Q r )) := by
  unfold wb_X6_wiresCut_48 at hw
  refine x_callS (M2 := M_X6_oneIf) (As := [.int s1]) (st := [.int s0]) wM_X6_67 wZ_X6_oneIf dX6_wiresCut_48 rfl ok_X6_oneIf ⟨(Nat.le_of_ble_eq_true rfl), (Nat.le_of_ble_eq_true rfl)⟩ (Nat.le_of_ble_eq_true rfl) (ct_X6_oneIf hw) (xqI.k (fun x1 τ2 hw2 => ?_))
  obtain ⟨he, hw⟩ := hw2
  subst he
  refine x_iadd dX6_wiresCut_51 ?_
  refine x_istore_n [(1, .int (s0 + x1)), (0, .ref a0), (2, .int l2)] dX6_wiresCut_52 rfl (Nat.le_of_ble_eq_true rfl) rfl ?_
  refine x_iinc [(2, .int (l2 + 1)), (1, .int (s0 + x1)), (0, .ref a0)] dX6_wiresCut_53 2 rfl (congrArg _ cI_1) (Nat.le_of_ble_eq_true rfl) rfl ?_
  refine x_goto 4 dX6_wiresCut_56 rfl ?_
  exact x_sub [2, 1, 0] rfl (hK4 _ _ hw)
def wb_X6_wiresCut_47 (Q : Int32 → Prop) (K4 : Int32 → Int32 → Prop) (σ : xS) (a0 : Nat) (l2 : Int32) (s0 : Int32) : Prop := wb_X6_wiresCut_48 Q K4 σ a0 l2 s0 0
set_option maxRecDepth 100000 in
set_option maxHeartbeats 4000000 in
theorem xb_X6_wiresCut_47 {Q : Int32 → Prop} {K4 : Int32 → Int32 → Prop} {σ : xS} {a0 : Nat}  {l2 : Int32} {s0 : Int32} (hW : xw6 σ a0)  (hK4 : ∀ (l1 : Int32) (l2 : Int32), K4 l1 l2 → xX M_X6_wiresCut 4 [(0, .ref a0), (1, .int l1), (2, .int l2)] [] σ (xqI (fun r σ2 => σ = σ2 ∧ Q r ))) (hw : wb_X6_wiresCut_47 Q K4 σ a0 l2 s0) : xX M_X6_wiresCut 47 [(0, .ref a0), (2, .int l2)] [.int s0] σ (xqI (fun r σ2 => σ = σ2 ∧ Q r )) := by
  unfold wb_X6_wiresCut_47 at hw
  refine x_iconst dX6_wiresCut_47 cI_0 ?_
  exact x_sub [0, 1] rfl (xb_X6_wiresCut_48 hW hK4 hw)
def wb_X6_wiresCut_4 (Q : Int32 → Prop) (σ : xS) (a0 : Nat) : Nat → Int32 → Int32 → Prop
  | 0, _, _ => False
  | n + 1, l1, l2 => ((16 : Int32) ≤ l2 → Q l1) ∧ (¬ (16 : Int32) ≤ l2 → vp_in l2 16 ∧ ((xh_q σ (a0 + 4) l2.toNatClampNeg = none → wb_X6_wiresCut_47 Q (fun l1 l2 => wb_X6_wiresCut_4 Q σ a0 n l1 l2) σ a0 l2 l1) ∧ (∀ a6, xh_q σ (a0 + 4) l2.toNatClampNeg = some a6 → xh_k σ a6 = 6 ∧ (((xh_I σ 323 a6) = 0 → wb_X6_wiresCut_47 Q (fun l1 l2 => wb_X6_wiresCut_4 Q σ a0 n l1 l2) σ a0 l2 l1) ∧ (¬ (xh_I σ 323 a6) = 0 → ((xh_I σ 321 a6) ≤ (xh_I σ 320 a6) → wb_X6_wiresCut_47 Q (fun l1 l2 => wb_X6_wiresCut_4 Q σ a0 n l1 l2) σ a0 l2 l1) ∧ (¬ (xh_I σ 321 a6) ≤ (xh_I σ 320 a6) → wb_X6_wiresCut_48 Q (fun l1 l2 => wb_X6_wiresCut_4 Q σ a0 n l1 l2) σ a0 l2 l1 1))))))
set_option maxRecDepth 100000 in
set_option maxHeartbeats 4000000 in
theorem xl_X6_wiresCut_4 {Q : Int32 → Prop} {σ : xS} {a0 : Nat}  (hW : xw6 σ a0)  : ∀ (n : Nat) (l1 : Int32) (l2 : Int32), wb_X6_wiresCut_4 Q σ a0 n l1 l2 → xX M_X6_wiresCut 4 [(0, .ref a0), (1, .int l1), (2, .int l2)] [] σ (xqI (fun r σ2 => σ = σ2 ∧ Q r )) := by
  intro n
  induction n with
  | zero => intro l1 l2 hw; exact False.elim hw
  | succ n ih =>
    intro l1 l2 hw
    unfold wb_X6_wiresCut_4 at hw
    refine x_iload_n dX6_wiresCut_4 rfl 2 rfl ?_
    refine x_aload_n dX6_wiresCut_5 rfl 0 rfl ?_
    refine x_get (ci := 6) (k := 3) (v := .ref (a0 + 4)) dX6_wiresCut_6 wF_X6_29 (Nat.le_of_ble_eq_true rfl) (Nat.le_of_ble_eq_true rfl) hW.1 (congrArg va_rf (w6r_4 hW)) ?_
    refine x_alenZ (t := 5) (v := 16) dX6_wiresCut_9 (w6k_4 hW) (Nat.le_of_ble_eq_true rfl) (w6z_4 hW) rfl ?_
    refine x_icmp_ge 59 dX6_wiresCut_10 rfl (fun hc3 => ?_) (fun hc3 => ?_)
    · replace hw := hw.1 hc3
      refine x_iload_n dX6_wiresCut_59 rfl 1 rfl ?_
      exact x_iret dX6_wiresCut_60 rfl ⟨l1, rfl, rfl, hw⟩
    · replace hw := hw.2 hc3
      refine x_aload_n dX6_wiresCut_13 rfl 0 rfl ?_
      refine x_get (ci := 6) (k := 3) (v := .ref (a0 + 4)) dX6_wiresCut_14 wF_X6_29 (Nat.le_of_ble_eq_true rfl) (Nat.le_of_ble_eq_true rfl) hW.1 (congrArg va_rf (w6r_4 hW)) ?_
      refine x_iload_n dX6_wiresCut_17 rfl 2 rfl ?_
      obtain ⟨hv4, hw⟩ := hw
      refine x_aaldZ (t := 3) dX6_wiresCut_18 (w6k_4 hW) (Nat.le_of_ble_eq_true rfl) (w6z_4 hW) hv4 ?_
      refine x_astore_nQ [(3, va_rf (xh_q σ (a0 + 4) l2.toNatClampNeg)), (0, .ref a0), (1, .int l1), (2, .int l2)] dX6_wiresCut_19 rfl (Nat.le_of_ble_eq_true rfl) rfl ?_
      refine x_iload_n dX6_wiresCut_20 rfl 2 rfl ?_
      refine x_aload_nQ dX6_wiresCut_21 rfl 0 rfl ?_
      refine x_ifnull 47 dX6_wiresCut_22 rfl (fun hn5 => ?_) (fun a6 hs7 => ?_)
      · replace hw := hw.1 hn5
        exact x_sub [1, 3] rfl (xb_X6_wiresCut_47 hW ih hw)
      · replace hw := hw.2 a6 hs7
        refine x_lvS 0 (lv2 := [(3, .ref a6), (0, .ref a0), (1, .int l1), (2, .int l2)]) rfl hs7 rfl ?_
        refine x_aload_n dX6_wiresCut_25 rfl 0 rfl ?_
        obtain ⟨hk8, hw⟩ := hw
        refine x_get (ci := 5) (k := 3) (v := .int (xh_I σ 323 a6)) dX6_wiresCut_26 wF_X6_197 (Nat.le_of_ble_eq_true rfl) (Nat.le_of_ble_eq_true rfl) hk8 rfl ?_
        refine x_if_eq 47 dX6_wiresCut_29 rfl (fun hc9 => ?_) (fun hc9 => ?_)
        · replace hw := hw.1 hc9
          exact x_sub [1, 3] rfl (xb_X6_wiresCut_47 hW ih hw)
        · replace hw := hw.2 hc9
          refine x_aload_n dX6_wiresCut_32 rfl 0 rfl ?_
          refine x_get (ci := 5) (k := 0) (v := .int (xh_I σ 320 a6)) dX6_wiresCut_33 wF_X6_375 (Nat.le_of_ble_eq_true rfl) (Nat.le_of_ble_eq_true rfl) hk8 rfl ?_
          refine x_aload_n dX6_wiresCut_36 rfl 0 rfl ?_
          refine x_get (ci := 5) (k := 1) (v := .int (xh_I σ 321 a6)) dX6_wiresCut_37 wF_X6_363 (Nat.le_of_ble_eq_true rfl) (Nat.le_of_ble_eq_true rfl) hk8 rfl ?_
          refine x_icmp_ge 47 dX6_wiresCut_40 rfl (fun hc10 => ?_) (fun hc10 => ?_)
          · replace hw := hw.1 hc10
            exact x_sub [1, 3] rfl (xb_X6_wiresCut_47 hW ih hw)
          · replace hw := hw.2 hc10
            refine x_iconst dX6_wiresCut_43 cI_1 ?_
            refine x_goto 48 dX6_wiresCut_44 rfl ?_
            exact x_sub [1, 3] rfl (xb_X6_wiresCut_48 hW ih hw)
def wp_X6_wiresCut (σ : xS) (a0 : Nat) (Q : Int32 → Prop) : Prop := ∃ m4, wb_X6_wiresCut_4 Q σ a0 m4 0 0
set_option maxRecDepth 100000 in
set_option maxHeartbeats 4000000 in
theorem ct_X6_wiresCut {σ : xS} {a0 : Nat}  {Q : Int32 → Prop} (hW : xw6 σ a0) (hw : wp_X6_wiresCut σ a0 Q) : xCt M_X6_wiresCut [.ref a0] σ (xqI (fun r σ2 => σ = σ2 ∧ Q r )) := by
  refine xCt_ofL (lv := [(0, .ref a0)]) pn_X6 (Nat.le_of_ble_eq_true rfl) rfl ?_
  unfold wp_X6_wiresCut at hw
  refine x_iconst dX6_wiresCut_0 cI_0 ?_
  refine x_istore_n [(1, .int 0), (0, .ref a0)] dX6_wiresCut_1 rfl (Nat.le_of_ble_eq_true rfl) rfl ?_
  refine x_iconst dX6_wiresCut_2 cI_0 ?_
  refine x_istore_n [(2, .int 0), (1, .int 0), (0, .ref a0)] dX6_wiresCut_3 rfl (Nat.le_of_ble_eq_true rfl) rfl ?_
  obtain ⟨m4, hw⟩ := hw
  exact x_sub [2, 1, 0] rfl (xl_X6_wiresCut_4 hW m4 _ _ hw)
-- PromiseWire.messagesHeld()I
def wb_X6_messagesHeld_34 (Q : Int32 → Prop) (K4 : Int32 → Int32 → Prop) (σ : xS) (a0 : Nat) (l2 : Int32) (s0 : Int32) (s1 : Int32) : Prop := K4 (s0 + s1) (l2 + 1)
set_option maxRecDepth 100000 in
set_option maxHeartbeats 4000000 in
theorem xb_X6_messagesHeld_34 {Q : Int32 → Prop} {K4 : Int32 → Int32 → Prop} {σ : xS} {a0 : Nat}  {l2 : Int32} {s0 : Int32} {s1 : Int32} (hW : xw6 σ a0)  (hK4 : ∀ (l1 : Int32) (l2 : Int32), K4 l1 l2 → xX M_X6_messagesHeld 4 [(0, .ref a0), (1, .int l1), (2, .int l2)] [] σ (xqI (fun r σ2 => σ = σ2 ∧ Q r ))) (hw : wb_X6_messagesHeld_34 Q K4 σ a0 l2 s0 s1) : xX M_X6_messagesHeld 34 [(0, .ref a0), (2, .int l2)] [.int s1, .int s0] σ (xqI (fun r σ2 => σ = σ2 ∧ Q r )) := by
  unfold wb_X6_messagesHeld_34 at hw
  refine x_iadd dX6_messagesHeld_34 ?_
  refine x_istore_n [(1, .int (s0 + s1)), (0, .ref a0), (2, .int l2)] dX6_messagesHeld_35 rfl (Nat.le_of_ble_eq_true rfl) rfl ?_
  refine x_iinc [(2, .int (l2 + 1)), (1, .int (s0 + s1)), (0, .ref a0)] dX6_messagesHeld_36 2 rfl (congrArg _ cI_1) (Nat.le_of_ble_eq_true rfl) rfl ?_
  refine x_goto 4 dX6_messagesHeld_39 rfl ?_
  exact x_sub [2, 1, 0] rfl (hK4 _ _ hw)
def wb_X6_messagesHeld_4 (Q : Int32 → Prop) (σ : xS) (a0 : Nat) : Nat → Int32 → Int32 → Prop
  | 0, _, _ => False
  | n + 1, l1, l2 => ((xh_I σ 389 a0) ≤ l2 → Q l1) ∧ (¬ (xh_I σ 389 a0) ≤ l2 → wp_X6_thingAt σ a0 l2 (fun x2 => (x2 = none → wb_X6_messagesHeld_34 Q (fun l1 l2 => wb_X6_messagesHeld_4 Q σ a0 n l1 l2) σ a0 l2 l1 0) ∧ (∀ a5, x2 = some a5 → xh_k σ a5 = 4 ∧ ∃ r8, xh_R σ 197 a5 = some r8 ∧ (xh_k σ r8 = 1 ∧ (wb_X6_messagesHeld_34 Q (fun l1 l2 => wb_X6_messagesHeld_4 Q σ a0 n l1 l2) σ a0 l2 l1 (xh_I σ 2 r8))))))
set_option maxRecDepth 100000 in
set_option maxHeartbeats 4000000 in
theorem xl_X6_messagesHeld_4 {Q : Int32 → Prop} {σ : xS} {a0 : Nat}  (hW : xw6 σ a0)  : ∀ (n : Nat) (l1 : Int32) (l2 : Int32), wb_X6_messagesHeld_4 Q σ a0 n l1 l2 → xX M_X6_messagesHeld 4 [(0, .ref a0), (1, .int l1), (2, .int l2)] [] σ (xqI (fun r σ2 => σ = σ2 ∧ Q r )) := by
  intro n
  induction n with
  | zero => intro l1 l2 hw; exact False.elim hw
  | succ n ih =>
    intro l1 l2 hw
    unfold wb_X6_messagesHeld_4 at hw
    refine x_iload_n dX6_messagesHeld_4 rfl 2 rfl ?_
    refine x_aload_n dX6_messagesHeld_5 rfl 0 rfl ?_
    refine x_get (ci := 6) (k := 5) (v := .int (xh_I σ 389 a0)) dX6_messagesHeld_6 wF_X6_228 (Nat.le_of_ble_eq_true rfl) (Nat.le_of_ble_eq_true rfl) hW.1 rfl ?_
    refine x_icmp_ge 42 dX6_messagesHeld_9 rfl (fun hc1 => ?_) (fun hc1 => ?_)
    · replace hw := hw.1 hc1
      refine x_iload_n dX6_messagesHeld_42 rfl 1 rfl ?_
      exact x_iret dX6_messagesHeld_43 rfl ⟨l1, rfl, rfl, hw⟩
    · replace hw := hw.2 hc1
      refine x_aload_n dX6_messagesHeld_12 rfl 0 rfl ?_
      refine x_iload_n dX6_messagesHeld_13 rfl 2 rfl ?_
      refine x_callV (M2 := M_X6_thingAt) (As := [.int l2]) (st := []) (ci := 6) (Nat.le_of_ble_eq_true rfl) hW.1 rfl wM_X6_55 wI_X6_thingAt wS_X6_thingAt dX6_messagesHeld_14 rfl ok_X6_thingAt ⟨(Nat.le_of_ble_eq_true rfl), (Nat.le_of_ble_eq_true rfl)⟩ (Nat.le_of_ble_eq_true rfl) (ct_X6_thingAt hW hw) (xqR.k (fun x2 τ3 hw2 => ?_))
      obtain ⟨he, hw⟩ := hw2
      subst he
      refine x_astore_nQ [(3, va_rf x2), (0, .ref a0), (1, .int l1), (2, .int l2)] dX6_messagesHeld_17 rfl (Nat.le_of_ble_eq_true rfl) rfl ?_
      refine x_iload_n dX6_messagesHeld_18 rfl 2 rfl ?_
      refine x_aload_nQ dX6_messagesHeld_19 rfl 0 rfl ?_
      refine x_ifnonnull 27 dX6_messagesHeld_20 rfl (fun hn4 => ?_) (fun a5 hs6 => ?_)
      · replace hw := hw.1 hn4
        refine x_iconst dX6_messagesHeld_23 cI_0 ?_
        refine x_goto 34 dX6_messagesHeld_24 rfl ?_
        exact x_sub [1, 3] rfl (xb_X6_messagesHeld_34 hW ih hw)
      · replace hw := hw.2 a5 hs6
        refine x_lvS 0 (lv2 := [(3, .ref a5), (0, .ref a0), (1, .int l1), (2, .int l2)]) rfl hs6 rfl ?_
        refine x_aload_n dX6_messagesHeld_27 rfl 0 rfl ?_
        obtain ⟨hk7, hw⟩ := hw
        obtain ⟨r8, hr9, hw⟩ := hw
        refine x_get (ci := 3) (k := 5) (v := .ref r8) dX6_messagesHeld_28 wF_X6_97 (Nat.le_of_ble_eq_true rfl) (Nat.le_of_ble_eq_true rfl) hk7 (congrArg va_rf hr9) ?_
        obtain ⟨hk10, hw⟩ := hw
        refine x_get (ci := 0) (k := 2) (v := .int (xh_I σ 2 r8)) dX6_messagesHeld_31 wF_X6_100 (Nat.le_of_ble_eq_true rfl) (Nat.le_of_ble_eq_true rfl) hk10 rfl ?_
        exact x_sub [1, 3] rfl (xb_X6_messagesHeld_34 hW ih hw)
def wp_X6_messagesHeld (σ : xS) (a0 : Nat) (Q : Int32 → Prop) : Prop := ∃ m4, wb_X6_messagesHeld_4 Q σ a0 m4 0 0
set_option maxRecDepth 100000 in
set_option maxHeartbeats 4000000 in
theorem ct_X6_messagesHeld {σ : xS} {a0 : Nat}  {Q : Int32 → Prop} (hW : xw6 σ a0) (hw : wp_X6_messagesHeld σ a0 Q) : xCt M_X6_messagesHeld [.ref a0] σ (xqI (fun r σ2 => σ = σ2 ∧ Q r )) := by
  refine xCt_ofL (lv := [(0, .ref a0)]) pn_X6 (Nat.le_of_ble_eq_true rfl) rfl ?_
  unfold wp_X6_messagesHeld at hw
  refine x_iconst dX6_messagesHeld_0 cI_0 ?_
  refine x_istore_n [(1, .int 0), (0, .ref a0)] dX6_messagesHeld_1 rfl (Nat.le_of_ble_eq_true rfl) rfl ?_
  refine x_iconst dX6_messagesHeld_2 cI_0 ?_
  refine x_istore_n [(2, .int 0), (1, .int 0), (0, .ref a0)] dX6_messagesHeld_3 rfl (Nat.le_of_ble_eq_true rfl) rfl ?_
  obtain ⟨m4, hw⟩ := hw
  exact x_sub [2, 1, 0] rfl (xl_X6_messagesHeld_4 hW m4 _ _ hw)
-- PromiseWire.messagesWaiting()I
def wb_X6_messagesWaiting_34 (Q : Int32 → Prop) (K4 : Int32 → Int32 → Prop) (σ : xS) (a0 : Nat) (l2 : Int32) (s0 : Int32) (s1 : Int32) : Prop := K4 (s0 + s1) (l2 + 1)
set_option maxRecDepth 100000 in
set_option maxHeartbeats 4000000 in
theorem xb_X6_messagesWaiting_34 {Q : Int32 → Prop} {K4 : Int32 → Int32 → Prop} {σ : xS} {a0 : Nat}  {l2 : Int32} {s0 : Int32} {s1 : Int32} (hW : xw6 σ a0)  (hK4 : ∀ (l1 : Int32) (l2 : Int32), K4 l1 l2 → xX M_X6_messagesWaiting 4 [(0, .ref a0), (1, .int l1), (2, .int l2)] [] σ (xqI (fun r σ2 => σ = σ2 ∧ Q r ))) (hw : wb_X6_messagesWaiting_34 Q K4 σ a0 l2 s0 s1) : xX M_X6_messagesWaiting 34 [(0, .ref a0), (2, .int l2)] [.int s1, .int s0] σ (xqI (fun r σ2 => σ = σ2 ∧ Q r )) := by
  unfold wb_X6_messagesWaiting_34 at hw
  refine x_iadd dX6_messagesWaiting_34 ?_
  refine x_istore_n [(1, .int (s0 + s1)), (0, .ref a0), (2, .int l2)] dX6_messagesWaiting_35 rfl (Nat.le_of_ble_eq_true rfl) rfl ?_
  refine x_iinc [(2, .int (l2 + 1)), (1, .int (s0 + s1)), (0, .ref a0)] dX6_messagesWaiting_36 2 rfl (congrArg _ cI_1) (Nat.le_of_ble_eq_true rfl) rfl ?_
  refine x_goto 4 dX6_messagesWaiting_39 rfl ?_
  exact x_sub [2, 1, 0] rfl (hK4 _ _ hw)
def wb_X6_messagesWaiting_4 (Q : Int32 → Prop) (σ : xS) (a0 : Nat) : Nat → Int32 → Int32 → Prop
  | 0, _, _ => False
  | n + 1, l1, l2 => ((xh_I σ 390 a0) ≤ l2 → Q l1) ∧ (¬ (xh_I σ 390 a0) ≤ l2 → wp_X6_promiseAt σ a0 l2 (fun x2 => (x2 = none → wb_X6_messagesWaiting_34 Q (fun l1 l2 => wb_X6_messagesWaiting_4 Q σ a0 n l1 l2) σ a0 l2 l1 0) ∧ (∀ a5, x2 = some a5 → xh_k σ a5 = 3 ∧ ∃ r8, xh_R σ 132 a5 = some r8 ∧ (xh_k σ r8 = 1 ∧ (wb_X6_messagesWaiting_34 Q (fun l1 l2 => wb_X6_messagesWaiting_4 Q σ a0 n l1 l2) σ a0 l2 l1 (xh_I σ 2 r8))))))
set_option maxRecDepth 100000 in
set_option maxHeartbeats 4000000 in
theorem xl_X6_messagesWaiting_4 {Q : Int32 → Prop} {σ : xS} {a0 : Nat}  (hW : xw6 σ a0)  : ∀ (n : Nat) (l1 : Int32) (l2 : Int32), wb_X6_messagesWaiting_4 Q σ a0 n l1 l2 → xX M_X6_messagesWaiting 4 [(0, .ref a0), (1, .int l1), (2, .int l2)] [] σ (xqI (fun r σ2 => σ = σ2 ∧ Q r )) := by
  intro n
  induction n with
  | zero => intro l1 l2 hw; exact False.elim hw
  | succ n ih =>
    intro l1 l2 hw
    unfold wb_X6_messagesWaiting_4 at hw
    refine x_iload_n dX6_messagesWaiting_4 rfl 2 rfl ?_
    refine x_aload_n dX6_messagesWaiting_5 rfl 0 rfl ?_
    refine x_get (ci := 6) (k := 6) (v := .int (xh_I σ 390 a0)) dX6_messagesWaiting_6 wF_X6_110 (Nat.le_of_ble_eq_true rfl) (Nat.le_of_ble_eq_true rfl) hW.1 rfl ?_
    refine x_icmp_ge 42 dX6_messagesWaiting_9 rfl (fun hc1 => ?_) (fun hc1 => ?_)
    · replace hw := hw.1 hc1
      refine x_iload_n dX6_messagesWaiting_42 rfl 1 rfl ?_
      exact x_iret dX6_messagesWaiting_43 rfl ⟨l1, rfl, rfl, hw⟩
    · replace hw := hw.2 hc1
      refine x_aload_n dX6_messagesWaiting_12 rfl 0 rfl ?_
      refine x_iload_n dX6_messagesWaiting_13 rfl 2 rfl ?_
      refine x_callV (M2 := M_X6_promiseAt) (As := [.int l2]) (st := []) (ci := 6) (Nat.le_of_ble_eq_true rfl) hW.1 rfl wM_X6_103 wI_X6_promiseAt wS_X6_promiseAt dX6_messagesWaiting_14 rfl ok_X6_promiseAt ⟨(Nat.le_of_ble_eq_true rfl), (Nat.le_of_ble_eq_true rfl)⟩ (Nat.le_of_ble_eq_true rfl) (ct_X6_promiseAt hW hw) (xqR.k (fun x2 τ3 hw2 => ?_))
      obtain ⟨he, hw⟩ := hw2
      subst he
      refine x_astore_nQ [(3, va_rf x2), (0, .ref a0), (1, .int l1), (2, .int l2)] dX6_messagesWaiting_17 rfl (Nat.le_of_ble_eq_true rfl) rfl ?_
      refine x_iload_n dX6_messagesWaiting_18 rfl 2 rfl ?_
      refine x_aload_nQ dX6_messagesWaiting_19 rfl 0 rfl ?_
      refine x_ifnonnull 27 dX6_messagesWaiting_20 rfl (fun hn4 => ?_) (fun a5 hs6 => ?_)
      · replace hw := hw.1 hn4
        refine x_iconst dX6_messagesWaiting_23 cI_0 ?_
        refine x_goto 34 dX6_messagesWaiting_24 rfl ?_
        exact x_sub [1, 3] rfl (xb_X6_messagesWaiting_34 hW ih hw)
      · replace hw := hw.2 a5 hs6
        refine x_lvS 0 (lv2 := [(3, .ref a5), (0, .ref a0), (1, .int l1), (2, .int l2)]) rfl hs6 rfl ?_
        refine x_aload_n dX6_messagesWaiting_27 rfl 0 rfl ?_
        obtain ⟨hk7, hw⟩ := hw
        obtain ⟨r8, hr9, hw⟩ := hw
        refine x_get (ci := 2) (k := 4) (v := .ref r8) dX6_messagesWaiting_28 wF_X6_163 (Nat.le_of_ble_eq_true rfl) (Nat.le_of_ble_eq_true rfl) hk7 (congrArg va_rf hr9) ?_
        obtain ⟨hk10, hw⟩ := hw
        refine x_get (ci := 0) (k := 2) (v := .int (xh_I σ 2 r8)) dX6_messagesWaiting_31 wF_X6_100 (Nat.le_of_ble_eq_true rfl) (Nat.le_of_ble_eq_true rfl) hk10 rfl ?_
        exact x_sub [1, 3] rfl (xb_X6_messagesWaiting_34 hW ih hw)
def wp_X6_messagesWaiting (σ : xS) (a0 : Nat) (Q : Int32 → Prop) : Prop := ∃ m4, wb_X6_messagesWaiting_4 Q σ a0 m4 0 0
set_option maxRecDepth 100000 in
set_option maxHeartbeats 4000000 in
theorem ct_X6_messagesWaiting {σ : xS} {a0 : Nat}  {Q : Int32 → Prop} (hW : xw6 σ a0) (hw : wp_X6_messagesWaiting σ a0 Q) : xCt M_X6_messagesWaiting [.ref a0] σ (xqI (fun r σ2 => σ = σ2 ∧ Q r )) := by
  refine xCt_ofL (lv := [(0, .ref a0)]) pn_X6 (Nat.le_of_ble_eq_true rfl) rfl ?_
  unfold wp_X6_messagesWaiting at hw
  refine x_iconst dX6_messagesWaiting_0 cI_0 ?_
  refine x_istore_n [(1, .int 0), (0, .ref a0)] dX6_messagesWaiting_1 rfl (Nat.le_of_ble_eq_true rfl) rfl ?_
  refine x_iconst dX6_messagesWaiting_2 cI_0 ?_
  refine x_istore_n [(2, .int 0), (1, .int 0), (0, .ref a0)] dX6_messagesWaiting_3 rfl (Nat.le_of_ble_eq_true rfl) rfl ?_
  obtain ⟨m4, hw⟩ := hw
  exact x_sub [2, 1, 0] rfl (xl_X6_messagesWaiting_4 hW m4 _ _ hw)
-- PromiseWire.count(I)I
def wp_X6_count (σ : xS) (a0 : Nat) (l1 : Int32) (Q : Int32 → Prop) : Prop := (l1 = 0 → Q (xh_I σ 389 a0)) ∧ (¬ l1 = 0 → (l1 = 1 → Q (xh_I σ 390 a0)) ∧ (¬ l1 = 1 → (l1 = 2 → wp_X6_openAtHome σ a0 (fun x4 => Q x4)) ∧ (¬ l1 = 2 → (l1 = 3 → wp_X6_lettersUnderWay σ a0 (fun x7 => Q x7)) ∧ (¬ l1 = 3 → (l1 = 4 → Q (xh_I σ 391 a0)) ∧ (¬ l1 = 4 → (l1 = 5 → wp_X6_wiresCut σ a0 (fun x11 => Q x11)) ∧ (¬ l1 = 5 → (l1 = 6 → wp_X6_messagesHeld σ a0 (fun x14 => Q x14)) ∧ (¬ l1 = 6 → (l1 = 7 → wp_X6_messagesWaiting σ a0 (fun x17 => Q x17)) ∧ (¬ l1 = 7 → (l1 = 8 → Q (xh_I σ 392 a0)) ∧ (¬ l1 = 8 → Q (-1))))))))))
set_option maxRecDepth 100000 in
set_option maxHeartbeats 4000000 in
theorem ct_X6_count {σ : xS} {a0 : Nat}  {l1 : Int32} {Q : Int32 → Prop} (hW : xw6 σ a0) (hw : wp_X6_count σ a0 l1 Q) : xCt M_X6_count [.ref a0, .int l1] σ (xqI (fun r σ2 => σ = σ2 ∧ Q r )) := by
  refine xCt_ofL (lv := [(0, .ref a0), (1, .int l1)]) pn_X6 (Nat.le_of_ble_eq_true rfl) rfl ?_
  unfold wp_X6_count at hw
  refine x_iload_n dX6_count_0 rfl 1 rfl ?_
  by_cases hc1 : l1 = 0
  · replace hw := hw.1 hc1
    refine x_tableIn (off := 51) 52 dX6_count_1 (by rw [hc1]; decide) (by rw [hc1]; decide) (by rw [hc1]; rfl) rfl ?_
    refine x_aload_n dX6_count_52 rfl 0 rfl ?_
    refine x_get (ci := 6) (k := 5) (v := .int (xh_I σ 389 a0)) dX6_count_53 wF_X6_228 (Nat.le_of_ble_eq_true rfl) (Nat.le_of_ble_eq_true rfl) hW.1 rfl ?_
    exact x_iret dX6_count_56 rfl ⟨(xh_I σ 389 a0), rfl, rfl, hw⟩
  · replace hw := hw.2 hc1
    by_cases hc2 : l1 = 1
    · replace hw := hw.1 hc2
      refine x_tableIn (off := 56) 57 dX6_count_1 (by rw [hc2]; decide) (by rw [hc2]; decide) (by rw [hc2]; rfl) rfl ?_
      refine x_aload_n dX6_count_57 rfl 0 rfl ?_
      refine x_get (ci := 6) (k := 6) (v := .int (xh_I σ 390 a0)) dX6_count_58 wF_X6_110 (Nat.le_of_ble_eq_true rfl) (Nat.le_of_ble_eq_true rfl) hW.1 rfl ?_
      exact x_iret dX6_count_61 rfl ⟨(xh_I σ 390 a0), rfl, rfl, hw⟩
    · replace hw := hw.2 hc2
      by_cases hc3 : l1 = 2
      · replace hw := hw.1 hc3
        refine x_tableIn (off := 61) 62 dX6_count_1 (by rw [hc3]; decide) (by rw [hc3]; decide) (by rw [hc3]; rfl) rfl ?_
        refine x_aload_n dX6_count_62 rfl 0 rfl ?_
        refine x_callV (M2 := M_X6_openAtHome) (As := []) (st := []) (ci := 6) (Nat.le_of_ble_eq_true rfl) hW.1 rfl wM_X6_235 wI_X6_openAtHome wS_X6_openAtHome dX6_count_63 rfl ok_X6_openAtHome ⟨(Nat.le_of_ble_eq_true rfl), (Nat.le_of_ble_eq_true rfl)⟩ (Nat.le_of_ble_eq_true rfl) (ct_X6_openAtHome hW hw) (xqI.k (fun x4 τ5 hw2 => ?_))
        obtain ⟨he, hw⟩ := hw2
        subst he
        exact x_iret dX6_count_66 rfl ⟨x4, rfl, rfl, hw⟩
      · replace hw := hw.2 hc3
        by_cases hc6 : l1 = 3
        · replace hw := hw.1 hc6
          refine x_tableIn (off := 66) 67 dX6_count_1 (by rw [hc6]; decide) (by rw [hc6]; decide) (by rw [hc6]; rfl) rfl ?_
          refine x_aload_n dX6_count_67 rfl 0 rfl ?_
          refine x_callV (M2 := M_X6_lettersUnderWay) (As := []) (st := []) (ci := 6) (Nat.le_of_ble_eq_true rfl) hW.1 rfl wM_X6_238 wI_X6_lettersUnderWay wS_X6_lettersUnderWay dX6_count_68 rfl ok_X6_lettersUnderWay ⟨(Nat.le_of_ble_eq_true rfl), (Nat.le_of_ble_eq_true rfl)⟩ (Nat.le_of_ble_eq_true rfl) (ct_X6_lettersUnderWay hW hw) (xqI.k (fun x7 τ8 hw2 => ?_))
          obtain ⟨he, hw⟩ := hw2
          subst he
          exact x_iret dX6_count_71 rfl ⟨x7, rfl, rfl, hw⟩
        · replace hw := hw.2 hc6
          by_cases hc9 : l1 = 4
          · replace hw := hw.1 hc9
            refine x_tableIn (off := 71) 72 dX6_count_1 (by rw [hc9]; decide) (by rw [hc9]; decide) (by rw [hc9]; rfl) rfl ?_
            refine x_aload_n dX6_count_72 rfl 0 rfl ?_
            refine x_get (ci := 6) (k := 7) (v := .int (xh_I σ 391 a0)) dX6_count_73 wF_X6_140 (Nat.le_of_ble_eq_true rfl) (Nat.le_of_ble_eq_true rfl) hW.1 rfl ?_
            exact x_iret dX6_count_76 rfl ⟨(xh_I σ 391 a0), rfl, rfl, hw⟩
          · replace hw := hw.2 hc9
            by_cases hc10 : l1 = 5
            · replace hw := hw.1 hc10
              refine x_tableIn (off := 76) 77 dX6_count_1 (by rw [hc10]; decide) (by rw [hc10]; decide) (by rw [hc10]; rfl) rfl ?_
              refine x_aload_n dX6_count_77 rfl 0 rfl ?_
              refine x_callV (M2 := M_X6_wiresCut) (As := []) (st := []) (ci := 6) (Nat.le_of_ble_eq_true rfl) hW.1 rfl wM_X6_241 wI_X6_wiresCut wS_X6_wiresCut dX6_count_78 rfl ok_X6_wiresCut ⟨(Nat.le_of_ble_eq_true rfl), (Nat.le_of_ble_eq_true rfl)⟩ (Nat.le_of_ble_eq_true rfl) (ct_X6_wiresCut hW hw) (xqI.k (fun x11 τ12 hw2 => ?_))
              obtain ⟨he, hw⟩ := hw2
              subst he
              exact x_iret dX6_count_81 rfl ⟨x11, rfl, rfl, hw⟩
            · replace hw := hw.2 hc10
              by_cases hc13 : l1 = 6
              · replace hw := hw.1 hc13
                refine x_tableIn (off := 81) 82 dX6_count_1 (by rw [hc13]; decide) (by rw [hc13]; decide) (by rw [hc13]; rfl) rfl ?_
                refine x_aload_n dX6_count_82 rfl 0 rfl ?_
                refine x_callV (M2 := M_X6_messagesHeld) (As := []) (st := []) (ci := 6) (Nat.le_of_ble_eq_true rfl) hW.1 rfl wM_X6_244 wI_X6_messagesHeld wS_X6_messagesHeld dX6_count_83 rfl ok_X6_messagesHeld ⟨(Nat.le_of_ble_eq_true rfl), (Nat.le_of_ble_eq_true rfl)⟩ (Nat.le_of_ble_eq_true rfl) (ct_X6_messagesHeld hW hw) (xqI.k (fun x14 τ15 hw2 => ?_))
                obtain ⟨he, hw⟩ := hw2
                subst he
                exact x_iret dX6_count_86 rfl ⟨x14, rfl, rfl, hw⟩
              · replace hw := hw.2 hc13
                by_cases hc16 : l1 = 7
                · replace hw := hw.1 hc16
                  refine x_tableIn (off := 86) 87 dX6_count_1 (by rw [hc16]; decide) (by rw [hc16]; decide) (by rw [hc16]; rfl) rfl ?_
                  refine x_aload_n dX6_count_87 rfl 0 rfl ?_
                  refine x_callV (M2 := M_X6_messagesWaiting) (As := []) (st := []) (ci := 6) (Nat.le_of_ble_eq_true rfl) hW.1 rfl wM_X6_247 wI_X6_messagesWaiting wS_X6_messagesWaiting dX6_count_88 rfl ok_X6_messagesWaiting ⟨(Nat.le_of_ble_eq_true rfl), (Nat.le_of_ble_eq_true rfl)⟩ (Nat.le_of_ble_eq_true rfl) (ct_X6_messagesWaiting hW hw) (xqI.k (fun x17 τ18 hw2 => ?_))
                  obtain ⟨he, hw⟩ := hw2
                  subst he
                  exact x_iret dX6_count_91 rfl ⟨x17, rfl, rfl, hw⟩
                · replace hw := hw.2 hc16
                  by_cases hc19 : l1 = 8
                  · replace hw := hw.1 hc19
                    refine x_tableIn (off := 91) 92 dX6_count_1 (by rw [hc19]; decide) (by rw [hc19]; decide) (by rw [hc19]; rfl) rfl ?_
                    refine x_aload_n dX6_count_92 rfl 0 rfl ?_
                    refine x_get (ci := 6) (k := 8) (v := .int (xh_I σ 392 a0)) dX6_count_93 wF_X6_250 (Nat.le_of_ble_eq_true rfl) (Nat.le_of_ble_eq_true rfl) hW.1 rfl ?_
                    exact x_iret dX6_count_96 rfl ⟨(xh_I σ 392 a0), rfl, rfl, hw⟩
                  · replace hw := hw.2 hc19
                    refine x_tableOut 97 dX6_count_1 (xsw_0_8 hc1 hc2 hc3 hc6 hc9 hc10 hc13 hc16 hc19) rfl ?_
                    refine x_iconst dX6_count_97 cI_m1 ?_
                    exact x_iret dX6_count_98 rfl ⟨(-1), rfl, rfl, hw⟩
-- PromiseWire.trace()J
def wp_X6_trace (σ : xS) (a0 : Nat) (Q : Int64 → Prop) : Prop := Q (xh_L σ 393 a0)
set_option maxRecDepth 100000 in
set_option maxHeartbeats 4000000 in
theorem ct_X6_trace {σ : xS} {a0 : Nat}  {Q : Int64 → Prop} (hW : xw6 σ a0) (hw : wp_X6_trace σ a0 Q) : xCt M_X6_trace [.ref a0] σ (xqL (fun r σ2 => σ = σ2 ∧ Q r )) := by
  refine xCt_ofL (lv := [(0, .ref a0)]) pn_X6 (Nat.le_of_ble_eq_true rfl) rfl ?_
  unfold wp_X6_trace at hw
  refine x_aload_n dX6_trace_0 rfl 0 rfl ?_
  refine x_get (ci := 6) (k := 9) (v := .long (xh_L σ 393 a0)) dX6_trace_1 wF_X6_253 (Nat.le_of_ble_eq_true rfl) (Nat.le_of_ble_eq_true rfl) hW.1 rfl ?_
  exact x_lret dX6_trace_4 rfl ⟨(xh_L σ 393 a0), rfl, rfl, hw⟩
