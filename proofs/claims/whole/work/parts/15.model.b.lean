-- PromiseWireModel.losesMessage(II)V
def wb_X7_losesMessage_36 (Q : xS → Prop) (σ : xS) (a0 : Nat) (l1 : Int32) (l2 : Int32) : Prop := wp_X7_settles σ a0 l1 l2 3 1 (fun σ1 => Q σ1)
set_option maxRecDepth 100000 in
set_option maxHeartbeats 4000000 in
theorem xb_X7_losesMessage_36 {Q : xS → Prop} {σ : xS} {a0 : Nat}  {l1 : Int32} {l2 : Int32} (hW : xw7 σ a0)  (hw : wb_X7_losesMessage_36 Q σ a0 l1 l2) : xX M_X7_losesMessage 36 [(0, .ref a0), (1, .int l1), (2, .int l2)] [] σ (xqV (fun σ2 => xw7 σ2 a0 ∧ Q σ2)) := by
  unfold wb_X7_losesMessage_36 at hw
  refine x_aload_n dX7_losesMessage_36 rfl 0 rfl ?_
  refine x_iload_n dX7_losesMessage_37 rfl 1 rfl ?_
  refine x_iload_n dX7_losesMessage_38 rfl 2 rfl ?_
  refine x_iconst dX7_losesMessage_39 cI_3 ?_
  refine x_iconst dX7_losesMessage_40 cI_1 ?_
  refine x_callV (M2 := M_X7_settles) (As := [.int l1, .int l2, .int 3, .int 1]) (st := []) (ci := 7) (Nat.le_of_ble_eq_true rfl) hW.1 rfl wM_X7_185 wI_X7_settles wS_X7_settles dX7_losesMessage_41 rfl ok_X7_settles ⟨(Nat.le_of_ble_eq_true rfl), (Nat.le_of_ble_eq_true rfl)⟩ (Nat.le_of_ble_eq_true rfl) (ct_X7_settles hW hw) (xqV.k (fun σ1 hw2 => ?_))
  obtain ⟨hW, hw⟩ := hw2
  exact x_vret dX7_losesMessage_44 rfl ⟨rfl, hW, hw⟩
def wp_X7_losesMessage (σ : xS) (a0 : Nat) (l1 : Int32) (l2 : Int32) (Q : xS → Prop) : Prop := vp_in l1 100 ∧ (((xh_a σ (a0 + 20) l1.toNatClampNeg) < 0 → wb_X7_losesMessage_36 Q σ a0 l1 l2) ∧ (¬ (xh_a σ (a0 + 20) l1.toNatClampNeg) < 0 → vp_in l1 100 ∧ (vp_in (xh_a σ (a0 + 20) l1.toNatClampNeg) 40 ∧ (vp_in l1 100 ∧ (vp_in (xh_a σ (a0 + 20) l1.toNatClampNeg) 40 ∧ ∀ σ8, σ8 = xs_a σ (a0 + 3) (xh_a σ (a0 + 20) l1.toNatClampNeg).toNatClampNeg ((xh_a σ (a0 + 3) (xh_a σ (a0 + 20) l1.toNatClampNeg).toNatClampNeg) + (xh_a σ (a0 + 18) l1.toNatClampNeg)) → (vp_in l1 100 ∧ ∀ σ10, σ10 = xs_a σ8 (a0 + 20) l1.toNatClampNeg (-1) → (wb_X7_losesMessage_36 Q σ10 a0 l1 l2)))))))
set_option maxRecDepth 100000 in
set_option maxHeartbeats 4000000 in
theorem ct_X7_losesMessage {σ : xS} {a0 : Nat}  {l1 : Int32} {l2 : Int32} {Q : xS → Prop} (hW : xw7 σ a0) (hw : wp_X7_losesMessage σ a0 l1 l2 Q) : xCt M_X7_losesMessage [.ref a0, .int l1, .int l2] σ (xqV (fun σ2 => xw7 σ2 a0 ∧ Q σ2)) := by
  refine xCt_ofL (lv := [(0, .ref a0), (1, .int l1), (2, .int l2)]) pn_X7 (Nat.le_of_ble_eq_true rfl) rfl ?_
  unfold wp_X7_losesMessage at hw
  refine x_aload_n dX7_losesMessage_0 rfl 0 rfl ?_
  refine x_get (ci := 7) (k := 21) (v := .ref (a0 + 20)) dX7_losesMessage_1 wF_X7_68 (Nat.le_of_ble_eq_true rfl) (Nat.le_of_ble_eq_true rfl) hW.1 (congrArg va_rf (w7r_20 hW)) ?_
  refine x_iload_n dX7_losesMessage_4 rfl 1 rfl ?_
  obtain ⟨hv2, hw⟩ := hw
  refine x_ialdZ dX7_losesMessage_5 (w7k_20 hW) (w7z_20 hW) hv2 ?_
  refine x_if_lt 36 dX7_losesMessage_6 rfl (fun hc3 => ?_) (fun hc3 => ?_)
  · replace hw := hw.1 hc3
    exact x_sub [0, 1, 2] rfl (xb_X7_losesMessage_36 hW hw)
  · replace hw := hw.2 hc3
    refine x_aload_n dX7_losesMessage_9 rfl 0 rfl ?_
    refine x_get (ci := 7) (k := 3) (v := .ref (a0 + 3)) dX7_losesMessage_10 wF_X7_16 (Nat.le_of_ble_eq_true rfl) (Nat.le_of_ble_eq_true rfl) hW.1 (congrArg va_rf (w7r_3 hW)) ?_
    refine x_aload_n dX7_losesMessage_13 rfl 0 rfl ?_
    refine x_get (ci := 7) (k := 21) (v := .ref (a0 + 20)) dX7_losesMessage_14 wF_X7_68 (Nat.le_of_ble_eq_true rfl) (Nat.le_of_ble_eq_true rfl) hW.1 (congrArg va_rf (w7r_20 hW)) ?_
    refine x_iload_n dX7_losesMessage_17 rfl 1 rfl ?_
    obtain ⟨hv4, hw⟩ := hw
    refine x_ialdZ dX7_losesMessage_18 (w7k_20 hW) (w7z_20 hW) hv4 ?_
    refine x_dup2 dX7_losesMessage_19 rfl rfl ?_
    obtain ⟨hv5, hw⟩ := hw
    refine x_ialdZ dX7_losesMessage_20 (w7k_3 hW) (w7z_3 hW) hv5 ?_
    refine x_aload_n dX7_losesMessage_21 rfl 0 rfl ?_
    refine x_get (ci := 7) (k := 19) (v := .ref (a0 + 18)) dX7_losesMessage_22 wF_X7_62 (Nat.le_of_ble_eq_true rfl) (Nat.le_of_ble_eq_true rfl) hW.1 (congrArg va_rf (w7r_18 hW)) ?_
    refine x_iload_n dX7_losesMessage_25 rfl 1 rfl ?_
    obtain ⟨hv6, hw⟩ := hw
    refine x_ialdZ dX7_losesMessage_26 (w7k_18 hW) (w7z_18 hW) hv6 ?_
    refine x_iadd dX7_losesMessage_27 ?_
    obtain ⟨hv7, hw⟩ := hw
    refine x_iastN dX7_losesMessage_28 (w7k_3 hW) (w7z_3 hW) hv7 (fun σ8 hσ8 => ?_)
    replace hw := hw σ8 hσ8
    refine x_aload_n dX7_losesMessage_29 rfl 0 rfl ?_
    have hW := (xw7_a hσ8 hW)
    refine x_get (ci := 7) (k := 21) (v := .ref (a0 + 20)) dX7_losesMessage_30 wF_X7_68 (Nat.le_of_ble_eq_true rfl) (Nat.le_of_ble_eq_true rfl) hW.1 (congrArg va_rf (w7r_20 hW)) ?_
    refine x_iload_n dX7_losesMessage_33 rfl 1 rfl ?_
    refine x_iconst dX7_losesMessage_34 cI_m1 ?_
    obtain ⟨hv9, hw⟩ := hw
    refine x_iastN dX7_losesMessage_35 (w7k_20 hW) (w7z_20 hW) hv9 (fun σ10 hσ10 => ?_)
    replace hw := hw σ10 hσ10
    have hW := (xw7_a hσ10 hW)
    exact x_sub [0, 1, 2] rfl (xb_X7_losesMessage_36 hW hw)
-- PromiseWireModel.sends(IIIII)V
def wb_X7_sends_54 (Q : xS → Prop) (σ : xS) (a0 : Nat) : Prop := Q σ
set_option maxRecDepth 100000 in
set_option maxHeartbeats 4000000 in
theorem xb_X7_sends_54 {Q : xS → Prop} {σ : xS} {a0 : Nat}  (hW : xw7 σ a0)  (hw : wb_X7_sends_54 Q σ a0) : xX M_X7_sends 54 [(0, .ref a0)] [] σ (xqV (fun σ2 => xw7 σ2 a0 ∧ Q σ2)) := by
  unfold wb_X7_sends_54 at hw
  exact x_vret dX7_sends_54 rfl ⟨rfl, hW, hw⟩
def wp_X7_sends (σ : xS) (a0 : Nat) (l1 : Int32) (l2 : Int32) (l3 : Int32) (l4 : Int32) (l5 : Int32) (Q : xS → Prop) : Prop := vp_in l1 100 ∧ (vp_in l1 100 ∧ ∀ σ3, σ3 = xs_a σ (a0 + 15) l1.toNatClampNeg ((xh_a σ (a0 + 15) l1.toNatClampNeg) + 1) → (vp_in ((4 * l2) + l3) 16 ∧ (((xh_a σ3 (a0 + 36) ((4 * l2) + l3).toNatClampNeg) = 0 → vp_in l1 100 ∧ ∀ σ7, σ7 = xs_a σ3 (a0 + 16) l1.toNatClampNeg 3 → (wp_X7_posts σ7 a0 0 l2 l3 l1 l4 l5 0 0 0 (fun σ8 => wb_X7_sends_54 Q σ8 a0))) ∧ (¬ (xh_a σ3 (a0 + 36) ((4 * l2) + l3).toNatClampNeg) = 0 → wp_X7_losesMessage σ3 a0 l1 l2 (fun σ9 => wb_X7_sends_54 Q σ9 a0)))))
set_option maxRecDepth 100000 in
set_option maxHeartbeats 4000000 in
theorem ct_X7_sends {σ : xS} {a0 : Nat}  {l1 : Int32} {l2 : Int32} {l3 : Int32} {l4 : Int32} {l5 : Int32} {Q : xS → Prop} (hW : xw7 σ a0) (hw : wp_X7_sends σ a0 l1 l2 l3 l4 l5 Q) : xCt M_X7_sends [.ref a0, .int l1, .int l2, .int l3, .int l4, .int l5] σ (xqV (fun σ2 => xw7 σ2 a0 ∧ Q σ2)) := by
  refine xCt_ofL (lv := [(0, .ref a0), (1, .int l1), (2, .int l2), (3, .int l3), (4, .int l4), (5, .int l5)]) pn_X7 (Nat.le_of_ble_eq_true rfl) rfl ?_
  unfold wp_X7_sends at hw
  refine x_aload_n dX7_sends_0 rfl 0 rfl ?_
  refine x_get (ci := 7) (k := 16) (v := .ref (a0 + 15)) dX7_sends_1 wF_X7_53 (Nat.le_of_ble_eq_true rfl) (Nat.le_of_ble_eq_true rfl) hW.1 (congrArg va_rf (w7r_15 hW)) ?_
  refine x_iload_n dX7_sends_4 rfl 1 rfl ?_
  refine x_dup2 dX7_sends_5 rfl rfl ?_
  obtain ⟨hv1, hw⟩ := hw
  refine x_ialdZ dX7_sends_6 (w7k_15 hW) (w7z_15 hW) hv1 ?_
  refine x_iconst dX7_sends_7 cI_1 ?_
  refine x_iadd dX7_sends_8 ?_
  obtain ⟨hv2, hw⟩ := hw
  refine x_iastN dX7_sends_9 (w7k_15 hW) (w7z_15 hW) hv2 (fun σ3 hσ3 => ?_)
  replace hw := hw σ3 hσ3
  refine x_aload_n dX7_sends_10 rfl 0 rfl ?_
  have hW := (xw7_a hσ3 hW)
  refine x_get (ci := 7) (k := 40) (v := .ref (a0 + 36)) dX7_sends_11 wF_X7_116 (Nat.le_of_ble_eq_true rfl) (Nat.le_of_ble_eq_true rfl) hW.1 (congrArg va_rf (w7r_36 hW)) ?_
  refine x_iconst dX7_sends_14 cI_4 ?_
  refine x_iload_n dX7_sends_15 rfl 2 rfl ?_
  refine x_imul dX7_sends_16 ?_
  refine x_iload_n dX7_sends_17 rfl 3 rfl ?_
  refine x_iadd dX7_sends_18 ?_
  obtain ⟨hv4, hw⟩ := hw
  refine x_zaldZ dX7_sends_19 (w7k_36 hW) (w7z_36 hW) hv4 ?_
  refine x_if_eq 32 dX7_sends_20 rfl (fun hc5 => ?_) (fun hc5 => ?_)
  · replace hw := hw.1 hc5
    refine x_aload_n dX7_sends_32 rfl 0 rfl ?_
    refine x_get (ci := 7) (k := 17) (v := .ref (a0 + 16)) dX7_sends_33 wF_X7_56 (Nat.le_of_ble_eq_true rfl) (Nat.le_of_ble_eq_true rfl) hW.1 (congrArg va_rf (w7r_16 hW)) ?_
    refine x_iload_n dX7_sends_36 rfl 1 rfl ?_
    refine x_iconst dX7_sends_37 cI_3 ?_
    obtain ⟨hv6, hw⟩ := hw
    refine x_iastN dX7_sends_38 (w7k_16 hW) (w7z_16 hW) hv6 (fun σ7 hσ7 => ?_)
    replace hw := hw σ7 hσ7
    refine x_aload_n dX7_sends_39 rfl 0 rfl ?_
    refine x_iconst dX7_sends_40 cI_0 ?_
    refine x_iload_n dX7_sends_41 rfl 2 rfl ?_
    refine x_iload_n dX7_sends_42 rfl 3 rfl ?_
    refine x_iload_n dX7_sends_43 rfl 1 rfl ?_
    refine x_iload dX7_sends_44 4 rfl ?_
    refine x_iload dX7_sends_46 5 rfl ?_
    refine x_iconst dX7_sends_48 cI_0 ?_
    refine x_iconst dX7_sends_49 cI_0 ?_
    refine x_iconst dX7_sends_50 cI_0 ?_
    have hW := (xw7_a hσ7 hW)
    refine x_callV (M2 := M_X7_posts) (As := [.int 0, .int l2, .int l3, .int l1, .int l4, .int l5, .int 0, .int 0, .int 0]) (st := []) (ci := 7) (Nat.le_of_ble_eq_true rfl) hW.1 rfl wM_X7_150 wI_X7_posts wS_X7_posts dX7_sends_51 rfl ok_X7_posts ⟨(Nat.le_of_ble_eq_true rfl), (Nat.le_of_ble_eq_true rfl)⟩ (Nat.le_of_ble_eq_true rfl) (ct_X7_posts hW hw) (xqV.k (fun σ8 hw2 => ?_))
    obtain ⟨hW, hw⟩ := hw2
    exact x_sub [0] rfl (xb_X7_sends_54 hW hw)
  · replace hw := hw.2 hc5
    refine x_aload_n dX7_sends_23 rfl 0 rfl ?_
    refine x_iload_n dX7_sends_24 rfl 1 rfl ?_
    refine x_iload_n dX7_sends_25 rfl 2 rfl ?_
    refine x_callV (M2 := M_X7_losesMessage) (As := [.int l1, .int l2]) (st := []) (ci := 7) (Nat.le_of_ble_eq_true rfl) hW.1 rfl wM_X7_188 wI_X7_losesMessage wS_X7_losesMessage dX7_sends_26 rfl ok_X7_losesMessage ⟨(Nat.le_of_ble_eq_true rfl), (Nat.le_of_ble_eq_true rfl)⟩ (Nat.le_of_ble_eq_true rfl) (ct_X7_losesMessage hW hw) (xqV.k (fun σ9 hw2 => ?_))
    obtain ⟨hW, hw⟩ := hw2
    refine x_goto 54 dX7_sends_29 rfl ?_
    exact x_sub [0] rfl (xb_X7_sends_54 hW hw)
-- PromiseWireModel.sendsToThing(III)V
def wp_X7_sendsToThing (σ : xS) (a0 : Nat) (l1 : Int32) (l2 : Int32) (l3 : Int32) (Q : xS → Prop) : Prop := vp_in l3 40 ∧ (wp_X7_sends σ a0 l1 l2 (xh_a σ (a0 + 1) l3.toNatClampNeg) l3 (-9) (fun σ2 => Q σ2))
set_option maxRecDepth 100000 in
set_option maxHeartbeats 4000000 in
theorem ct_X7_sendsToThing {σ : xS} {a0 : Nat}  {l1 : Int32} {l2 : Int32} {l3 : Int32} {Q : xS → Prop} (hW : xw7 σ a0) (hw : wp_X7_sendsToThing σ a0 l1 l2 l3 Q) : xCt M_X7_sendsToThing [.ref a0, .int l1, .int l2, .int l3] σ (xqV (fun σ2 => xw7 σ2 a0 ∧ Q σ2)) := by
  refine xCt_ofL (lv := [(0, .ref a0), (1, .int l1), (2, .int l2), (3, .int l3)]) pn_X7 (Nat.le_of_ble_eq_true rfl) rfl ?_
  unfold wp_X7_sendsToThing at hw
  refine x_aload_n dX7_sendsToThing_0 rfl 0 rfl ?_
  refine x_iload_n dX7_sendsToThing_1 rfl 1 rfl ?_
  refine x_iload_n dX7_sendsToThing_2 rfl 2 rfl ?_
  refine x_aload_n dX7_sendsToThing_3 rfl 0 rfl ?_
  refine x_get (ci := 7) (k := 1) (v := .ref (a0 + 1)) dX7_sendsToThing_4 wF_X7_7 (Nat.le_of_ble_eq_true rfl) (Nat.le_of_ble_eq_true rfl) hW.1 (congrArg va_rf (w7r_1 hW)) ?_
  refine x_iload_n dX7_sendsToThing_7 rfl 3 rfl ?_
  obtain ⟨hv1, hw⟩ := hw
  refine x_ialdZ dX7_sendsToThing_8 (w7k_1 hW) (w7z_1 hW) hv1 ?_
  refine x_iload_n dX7_sendsToThing_9 rfl 3 rfl ?_
  refine x_bipush dX7_sendsToThing_10 cB_m9 ?_
  refine x_callV (M2 := M_X7_sends) (As := [.int l1, .int l2, .int (xh_a σ (a0 + 1) l3.toNatClampNeg), .int l3, .int (-9)]) (st := []) (ci := 7) (Nat.le_of_ble_eq_true rfl) hW.1 rfl wM_X7_192 wI_X7_sends wS_X7_sends dX7_sendsToThing_12 rfl ok_X7_sends ⟨(Nat.le_of_ble_eq_true rfl), (Nat.le_of_ble_eq_true rfl)⟩ (Nat.le_of_ble_eq_true rfl) (ct_X7_sends hW hw) (xqV.k (fun σ2 hw2 => ?_))
  obtain ⟨hW, hw⟩ := hw2
  exact x_vret dX7_sendsToThing_15 rfl ⟨rfl, hW, hw⟩
-- PromiseWireModel.goesOn(IIII)V
def wb_X7_goesOn_34 (Q : xS → Prop) (σ : xS) (a0 : Nat) : Prop := Q σ
set_option maxRecDepth 100000 in
set_option maxHeartbeats 4000000 in
theorem xb_X7_goesOn_34 {Q : xS → Prop} {σ : xS} {a0 : Nat}  (hW : xw7 σ a0)  (hw : wb_X7_goesOn_34 Q σ a0) : xX M_X7_goesOn 34 [(0, .ref a0)] [] σ (xqV (fun σ2 => xw7 σ2 a0 ∧ Q σ2)) := by
  unfold wb_X7_goesOn_34 at hw
  exact x_vret dX7_goesOn_34 rfl ⟨rfl, hW, hw⟩
def wb_X7_goesOn_31 (Q : xS → Prop) (σ : xS) (a0 : Nat) (s1 : Int32) (s2 : Int32) (s3 : Int32) (s4 : Int32) : Prop := wp_X7_settles σ a0 s1 s2 s3 s4 (fun σ1 => wb_X7_goesOn_34 Q σ1 a0)
set_option maxRecDepth 100000 in
set_option maxHeartbeats 4000000 in
theorem xb_X7_goesOn_31 {Q : xS → Prop} {σ : xS} {a0 : Nat}  {s1 : Int32} {s2 : Int32} {s3 : Int32} {s4 : Int32} (hW : xw7 σ a0)  (hw : wb_X7_goesOn_31 Q σ a0 s1 s2 s3 s4) : xX M_X7_goesOn 31 [(0, .ref a0)] [.int s4, .int s3, .int s2, .int s1, .ref a0] σ (xqV (fun σ2 => xw7 σ2 a0 ∧ Q σ2)) := by
  unfold wb_X7_goesOn_31 at hw
  refine x_callV (M2 := M_X7_settles) (As := [.int s1, .int s2, .int s3, .int s4]) (st := []) (ci := 7) (Nat.le_of_ble_eq_true rfl) hW.1 rfl wM_X7_185 wI_X7_settles wS_X7_settles dX7_goesOn_31 rfl ok_X7_settles ⟨(Nat.le_of_ble_eq_true rfl), (Nat.le_of_ble_eq_true rfl)⟩ (Nat.le_of_ble_eq_true rfl) (ct_X7_settles hW hw) (xqV.k (fun σ1 hw2 => ?_))
  obtain ⟨hW, hw⟩ := hw2
  exact x_sub [0] rfl (xb_X7_goesOn_34 hW hw)
def wp_X7_goesOn (σ : xS) (a0 : Nat) (l1 : Int32) (l2 : Int32) (l3 : Int32) (l4 : Int32) (Q : xS → Prop) : Prop := (l3 = 2 → wp_X7_sendsToThing σ a0 l1 l2 l4 (fun σ4 => wb_X7_goesOn_34 Q σ4 a0)) ∧ (¬ l3 = 2 → (l3 = 1 → wb_X7_goesOn_31 Q σ a0 l1 l2 3 3) ∧ (¬ l3 = 1 → wb_X7_goesOn_31 Q σ a0 l1 l2 3 l4))
set_option maxRecDepth 100000 in
set_option maxHeartbeats 4000000 in
theorem ct_X7_goesOn {σ : xS} {a0 : Nat}  {l1 : Int32} {l2 : Int32} {l3 : Int32} {l4 : Int32} {Q : xS → Prop} (hW : xw7 σ a0) (hw : wp_X7_goesOn σ a0 l1 l2 l3 l4 Q) : xCt M_X7_goesOn [.ref a0, .int l1, .int l2, .int l3, .int l4] σ (xqV (fun σ2 => xw7 σ2 a0 ∧ Q σ2)) := by
  refine xCt_ofL (lv := [(0, .ref a0), (1, .int l1), (2, .int l2), (3, .int l3), (4, .int l4)]) pn_X7 (Nat.le_of_ble_eq_true rfl) rfl ?_
  unfold wp_X7_goesOn at hw
  refine x_iload_n dX7_goesOn_0 rfl 3 rfl ?_
  refine x_iconst dX7_goesOn_1 cI_2 ?_
  refine x_icmp_ne 16 dX7_goesOn_2 rfl (fun hc2 => ?_) (fun hc2 => ?_)
  · replace hw := hw.2 hc2
    refine x_aload_n dX7_goesOn_16 rfl 0 rfl ?_
    refine x_iload_n dX7_goesOn_17 rfl 1 rfl ?_
    refine x_iload_n dX7_goesOn_18 rfl 2 rfl ?_
    refine x_iconst dX7_goesOn_19 cI_3 ?_
    refine x_iload_n dX7_goesOn_20 rfl 3 rfl ?_
    refine x_iconst dX7_goesOn_21 cI_1 ?_
    refine x_icmp_ne 29 dX7_goesOn_22 rfl (fun hc3 => ?_) (fun hc3 => ?_)
    · replace hw := hw.2 hc3
      refine x_iload dX7_goesOn_29 4 rfl ?_
      exact x_sub [0] rfl (xb_X7_goesOn_31 hW hw)
    · replace hw := hw.1 hc3
      refine x_iconst dX7_goesOn_25 cI_3 ?_
      refine x_goto 31 dX7_goesOn_26 rfl ?_
      exact x_sub [0] rfl (xb_X7_goesOn_31 hW hw)
  · replace hw := hw.1 hc2
    refine x_aload_n dX7_goesOn_5 rfl 0 rfl ?_
    refine x_iload_n dX7_goesOn_6 rfl 1 rfl ?_
    refine x_iload_n dX7_goesOn_7 rfl 2 rfl ?_
    refine x_iload dX7_goesOn_8 4 rfl ?_
    refine x_callV (M2 := M_X7_sendsToThing) (As := [.int l1, .int l2, .int l4]) (st := []) (ci := 7) (Nat.le_of_ble_eq_true rfl) hW.1 rfl wM_X7_196 wI_X7_sendsToThing wS_X7_sendsToThing dX7_goesOn_10 rfl ok_X7_sendsToThing ⟨(Nat.le_of_ble_eq_true rfl), (Nat.le_of_ble_eq_true rfl)⟩ (Nat.le_of_ble_eq_true rfl) (ct_X7_sendsToThing hW hw) (xqV.k (fun σ4 hw2 => ?_))
    obtain ⟨hW, hw⟩ := hw2
    refine x_goto 34 dX7_goesOn_13 rfl ?_
    exact x_sub [0] rfl (xb_X7_goesOn_34 hW hw)
-- PromiseWireModel.firstKept(II)I
def wb_X7_firstKept_74 (Q : Int32 → Prop) (K5 : Int32 → Int32 → Int32 → Int32 → Prop) (σ : xS) (a0 : Nat) (l1 : Int32) (l2 : Int32) (l4 : Int32) (s0 : Int32) : Prop := K5 l1 l2 s0 (l4 + 1)
set_option maxRecDepth 100000 in
set_option maxHeartbeats 4000000 in
theorem xb_X7_firstKept_74 {Q : Int32 → Prop} {K5 : Int32 → Int32 → Int32 → Int32 → Prop} {σ : xS} {a0 : Nat}  {l1 : Int32} {l2 : Int32} {l4 : Int32} {s0 : Int32} (hW : xw7 σ a0)  (hK5 : ∀ (l1 : Int32) (l2 : Int32) (l3 : Int32) (l4 : Int32), K5 l1 l2 l3 l4 → xX M_X7_firstKept 5 [(0, .ref a0), (1, .int l1), (2, .int l2), (3, .int l3), (4, .int l4)] [] σ (xqI (fun r σ2 => σ = σ2 ∧ Q r ))) (hw : wb_X7_firstKept_74 Q K5 σ a0 l1 l2 l4 s0) : xX M_X7_firstKept 74 [(0, .ref a0), (1, .int l1), (2, .int l2), (4, .int l4)] [.int s0] σ (xqI (fun r σ2 => σ = σ2 ∧ Q r )) := by
  unfold wb_X7_firstKept_74 at hw
  refine x_istore_n [(3, .int s0), (0, .ref a0), (1, .int l1), (2, .int l2), (4, .int l4)] dX7_firstKept_74 rfl (Nat.le_of_ble_eq_true rfl) rfl ?_
  refine x_iinc [(4, .int (l4 + 1)), (3, .int s0), (0, .ref a0), (1, .int l1), (2, .int l2)] dX7_firstKept_75 4 rfl (congrArg _ cI_1) (Nat.le_of_ble_eq_true rfl) rfl ?_
  refine x_goto 5 dX7_firstKept_78 rfl ?_
  exact x_sub [2, 3, 4, 1, 0] rfl (hK5 _ _ _ _ hw)
def wb_X7_firstKept_73 (Q : Int32 → Prop) (K5 : Int32 → Int32 → Int32 → Int32 → Prop) (σ : xS) (a0 : Nat) (l1 : Int32) (l2 : Int32) (l3 : Int32) (l4 : Int32) : Prop := wb_X7_firstKept_74 Q K5 σ a0 l1 l2 l4 l3
set_option maxRecDepth 100000 in
set_option maxHeartbeats 4000000 in
theorem xb_X7_firstKept_73 {Q : Int32 → Prop} {K5 : Int32 → Int32 → Int32 → Int32 → Prop} {σ : xS} {a0 : Nat}  {l1 : Int32} {l2 : Int32} {l3 : Int32} {l4 : Int32} (hW : xw7 σ a0)  (hK5 : ∀ (l1 : Int32) (l2 : Int32) (l3 : Int32) (l4 : Int32), K5 l1 l2 l3 l4 → xX M_X7_firstKept 5 [(0, .ref a0), (1, .int l1), (2, .int l2), (3, .int l3), (4, .int l4)] [] σ (xqI (fun r σ2 => σ = σ2 ∧ Q r ))) (hw : wb_X7_firstKept_73 Q K5 σ a0 l1 l2 l3 l4) : xX M_X7_firstKept 73 [(0, .ref a0), (1, .int l1), (2, .int l2), (3, .int l3), (4, .int l4)] [] σ (xqI (fun r σ2 => σ = σ2 ∧ Q r )) := by
  unfold wb_X7_firstKept_73 at hw
  refine x_iload_n dX7_firstKept_73 rfl 3 rfl ?_
  exact x_sub [0, 1, 2, 4] rfl (xb_X7_firstKept_74 hW hK5 hw)
def wb_X7_firstKept_68 (Q : Int32 → Prop) (K5 : Int32 → Int32 → Int32 → Int32 → Prop) (σ : xS) (a0 : Nat) (l1 : Int32) (l2 : Int32) (l4 : Int32) : Prop := wb_X7_firstKept_74 Q K5 σ a0 l1 l2 l4 l4
set_option maxRecDepth 100000 in
set_option maxHeartbeats 4000000 in
theorem xb_X7_firstKept_68 {Q : Int32 → Prop} {K5 : Int32 → Int32 → Int32 → Int32 → Prop} {σ : xS} {a0 : Nat}  {l1 : Int32} {l2 : Int32} {l4 : Int32} (hW : xw7 σ a0)  (hK5 : ∀ (l1 : Int32) (l2 : Int32) (l3 : Int32) (l4 : Int32), K5 l1 l2 l3 l4 → xX M_X7_firstKept 5 [(0, .ref a0), (1, .int l1), (2, .int l2), (3, .int l3), (4, .int l4)] [] σ (xqI (fun r σ2 => σ = σ2 ∧ Q r ))) (hw : wb_X7_firstKept_68 Q K5 σ a0 l1 l2 l4) : xX M_X7_firstKept 68 [(0, .ref a0), (1, .int l1), (2, .int l2), (4, .int l4)] [] σ (xqI (fun r σ2 => σ = σ2 ∧ Q r )) := by
  unfold wb_X7_firstKept_68 at hw
  refine x_iload dX7_firstKept_68 3 rfl ?_
  refine x_goto 74 dX7_firstKept_70 rfl ?_
  exact x_sub [0, 1, 2, 3] rfl (xb_X7_firstKept_74 hW hK5 hw)
def wb_X7_firstKept_41 (Q : Int32 → Prop) (K5 : Int32 → Int32 → Int32 → Int32 → Prop) (σ : xS) (a0 : Nat) (l1 : Int32) (l2 : Int32) (l3 : Int32) (l4 : Int32) (s0 : Int32) : Prop := (s0 = 0 → wb_X7_firstKept_73 Q K5 σ a0 l1 l2 l3 l4) ∧ (¬ s0 = 0 → (l3 < 0 → wb_X7_firstKept_68 Q K5 σ a0 l1 l2 l4) ∧ (¬ l3 < 0 → vp_in l4 100 ∧ (vp_in l3 100 ∧ (((xh_a σ (a0 + 22) l3.toNatClampNeg) ≤ (xh_a σ (a0 + 22) l4.toNatClampNeg) → wb_X7_firstKept_73 Q K5 σ a0 l1 l2 l3 l4) ∧ (¬ (xh_a σ (a0 + 22) l3.toNatClampNeg) ≤ (xh_a σ (a0 + 22) l4.toNatClampNeg) → wb_X7_firstKept_68 Q K5 σ a0 l1 l2 l4)))))
set_option maxRecDepth 100000 in
set_option maxHeartbeats 4000000 in
theorem xb_X7_firstKept_41 {Q : Int32 → Prop} {K5 : Int32 → Int32 → Int32 → Int32 → Prop} {σ : xS} {a0 : Nat}  {l1 : Int32} {l2 : Int32} {l3 : Int32} {l4 : Int32} {s0 : Int32} (hW : xw7 σ a0)  (hK5 : ∀ (l1 : Int32) (l2 : Int32) (l3 : Int32) (l4 : Int32), K5 l1 l2 l3 l4 → xX M_X7_firstKept 5 [(0, .ref a0), (1, .int l1), (2, .int l2), (3, .int l3), (4, .int l4)] [] σ (xqI (fun r σ2 => σ = σ2 ∧ Q r ))) (hw : wb_X7_firstKept_41 Q K5 σ a0 l1 l2 l3 l4 s0) : xX M_X7_firstKept 41 [(0, .ref a0), (1, .int l1), (2, .int l2), (3, .int l3), (4, .int l4)] [.int s0] σ (xqI (fun r σ2 => σ = σ2 ∧ Q r )) := by
  unfold wb_X7_firstKept_41 at hw
  refine x_istore [(5, .int s0), (0, .ref a0), (1, .int l1), (2, .int l2), (3, .int l3), (4, .int l4)] dX7_firstKept_41 (Nat.le_of_ble_eq_true rfl) rfl ?_
  refine x_iload dX7_firstKept_43 0 rfl ?_
  refine x_if_eq 73 dX7_firstKept_45 rfl (fun hc1 => ?_) (fun hc1 => ?_)
  · replace hw := hw.1 hc1
    exact x_sub [1, 2, 3, 4, 5] rfl (xb_X7_firstKept_73 hW hK5 hw)
  · replace hw := hw.2 hc1
    refine x_iload_n dX7_firstKept_48 rfl 4 rfl ?_
    refine x_if_lt 68 dX7_firstKept_49 rfl (fun hc2 => ?_) (fun hc2 => ?_)
    · replace hw := hw.1 hc2
      exact x_sub [1, 2, 3, 5] rfl (xb_X7_firstKept_68 hW hK5 hw)
    · replace hw := hw.2 hc2
      refine x_aload_n dX7_firstKept_52 rfl 1 rfl ?_
      refine x_get (ci := 7) (k := 23) (v := .ref (a0 + 22)) dX7_firstKept_53 wF_X7_74 (Nat.le_of_ble_eq_true rfl) (Nat.le_of_ble_eq_true rfl) hW.1 (congrArg va_rf (w7r_22 hW)) ?_
      refine x_iload dX7_firstKept_56 5 rfl ?_
      obtain ⟨hv3, hw⟩ := hw
      refine x_ialdZ dX7_firstKept_58 (w7k_22 hW) (w7z_22 hW) hv3 ?_
      refine x_aload_n dX7_firstKept_59 rfl 1 rfl ?_
      refine x_get (ci := 7) (k := 23) (v := .ref (a0 + 22)) dX7_firstKept_60 wF_X7_74 (Nat.le_of_ble_eq_true rfl) (Nat.le_of_ble_eq_true rfl) hW.1 (congrArg va_rf (w7r_22 hW)) ?_
      refine x_iload_n dX7_firstKept_63 rfl 4 rfl ?_
      obtain ⟨hv4, hw⟩ := hw
      refine x_ialdZ dX7_firstKept_64 (w7k_22 hW) (w7z_22 hW) hv4 ?_
      refine x_icmp_ge 73 dX7_firstKept_65 rfl (fun hc5 => ?_) (fun hc5 => ?_)
      · replace hw := hw.1 hc5
        exact x_sub [1, 2, 3, 4, 5] rfl (xb_X7_firstKept_73 hW hK5 hw)
      · replace hw := hw.2 hc5
        exact x_sub [1, 2, 3, 5] rfl (xb_X7_firstKept_68 hW hK5 hw)
def wb_X7_firstKept_40 (Q : Int32 → Prop) (K5 : Int32 → Int32 → Int32 → Int32 → Prop) (σ : xS) (a0 : Nat) (l1 : Int32) (l2 : Int32) (l3 : Int32) (l4 : Int32) : Prop := wb_X7_firstKept_41 Q K5 σ a0 l1 l2 l3 l4 0
set_option maxRecDepth 100000 in
set_option maxHeartbeats 4000000 in
theorem xb_X7_firstKept_40 {Q : Int32 → Prop} {K5 : Int32 → Int32 → Int32 → Int32 → Prop} {σ : xS} {a0 : Nat}  {l1 : Int32} {l2 : Int32} {l3 : Int32} {l4 : Int32} (hW : xw7 σ a0)  (hK5 : ∀ (l1 : Int32) (l2 : Int32) (l3 : Int32) (l4 : Int32), K5 l1 l2 l3 l4 → xX M_X7_firstKept 5 [(0, .ref a0), (1, .int l1), (2, .int l2), (3, .int l3), (4, .int l4)] [] σ (xqI (fun r σ2 => σ = σ2 ∧ Q r ))) (hw : wb_X7_firstKept_40 Q K5 σ a0 l1 l2 l3 l4) : xX M_X7_firstKept 40 [(0, .ref a0), (1, .int l1), (2, .int l2), (3, .int l3), (4, .int l4)] [] σ (xqI (fun r σ2 => σ = σ2 ∧ Q r )) := by
  unfold wb_X7_firstKept_40 at hw
  refine x_iconst dX7_firstKept_40 cI_0 ?_
  exact x_sub [0, 1, 2, 3, 4] rfl (xb_X7_firstKept_41 hW hK5 hw)
def wb_X7_firstKept_5 (Q : Int32 → Prop) (σ : xS) (a0 : Nat) : Nat → Int32 → Int32 → Int32 → Int32 → Prop
  | 0, _, _, _, _ => False
  | n + 1, l1, l2, l3, l4 => ((xh_I σ 457 a0) ≤ l4 → Q l3) ∧ (¬ (xh_I σ 457 a0) ≤ l4 → vp_in l4 100 ∧ (((xh_a σ (a0 + 16) l4.toNatClampNeg) = l1 → vp_in l4 100 ∧ (((xh_a σ (a0 + 21) l4.toNatClampNeg) = l2 → wb_X7_firstKept_41 Q (fun l1 l2 l3 l4 => wb_X7_firstKept_5 Q σ a0 n l1 l2 l3 l4) σ a0 l1 l2 l3 l4 1) ∧ (¬ (xh_a σ (a0 + 21) l4.toNatClampNeg) = l2 → wb_X7_firstKept_40 Q (fun l1 l2 l3 l4 => wb_X7_firstKept_5 Q σ a0 n l1 l2 l3 l4) σ a0 l1 l2 l3 l4))) ∧ (¬ (xh_a σ (a0 + 16) l4.toNatClampNeg) = l1 → wb_X7_firstKept_40 Q (fun l1 l2 l3 l4 => wb_X7_firstKept_5 Q σ a0 n l1 l2 l3 l4) σ a0 l1 l2 l3 l4)))
set_option maxRecDepth 100000 in
set_option maxHeartbeats 4000000 in
theorem xl_X7_firstKept_5 {Q : Int32 → Prop} {σ : xS} {a0 : Nat}  (hW : xw7 σ a0)  : ∀ (n : Nat) (l1 : Int32) (l2 : Int32) (l3 : Int32) (l4 : Int32), wb_X7_firstKept_5 Q σ a0 n l1 l2 l3 l4 → xX M_X7_firstKept 5 [(0, .ref a0), (1, .int l1), (2, .int l2), (3, .int l3), (4, .int l4)] [] σ (xqI (fun r σ2 => σ = σ2 ∧ Q r )) := by
  intro n
  induction n with
  | zero => intro l1 l2 l3 l4 hw; exact False.elim hw
  | succ n ih =>
    intro l1 l2 l3 l4 hw
    unfold wb_X7_firstKept_5 at hw
    refine x_iload dX7_firstKept_5 4 rfl ?_
    refine x_aload_n dX7_firstKept_7 rfl 0 rfl ?_
    refine x_get (ci := 7) (k := 9) (v := .int (xh_I σ 457 a0)) dX7_firstKept_8 wF_X7_136 (Nat.le_of_ble_eq_true rfl) (Nat.le_of_ble_eq_true rfl) hW.1 rfl ?_
    refine x_icmp_ge 81 dX7_firstKept_11 rfl (fun hc6 => ?_) (fun hc6 => ?_)
    · replace hw := hw.1 hc6
      refine x_iload_n dX7_firstKept_81 rfl 3 rfl ?_
      exact x_iret dX7_firstKept_82 rfl ⟨l3, rfl, rfl, hw⟩
    · replace hw := hw.2 hc6
      refine x_aload_n dX7_firstKept_14 rfl 0 rfl ?_
      refine x_get (ci := 7) (k := 17) (v := .ref (a0 + 16)) dX7_firstKept_15 wF_X7_56 (Nat.le_of_ble_eq_true rfl) (Nat.le_of_ble_eq_true rfl) hW.1 (congrArg va_rf (w7r_16 hW)) ?_
      refine x_iload dX7_firstKept_18 4 rfl ?_
      obtain ⟨hv7, hw⟩ := hw
      refine x_ialdZ dX7_firstKept_20 (w7k_16 hW) (w7z_16 hW) hv7 ?_
      refine x_iload_n dX7_firstKept_21 rfl 1 rfl ?_
      refine x_icmp_ne 40 dX7_firstKept_22 rfl (fun hc8 => ?_) (fun hc8 => ?_)
      · replace hw := hw.2 hc8
        exact x_sub [0, 1, 2, 3, 4] rfl (xb_X7_firstKept_40 hW ih hw)
      · replace hw := hw.1 hc8
        refine x_aload_n dX7_firstKept_25 rfl 0 rfl ?_
        refine x_get (ci := 7) (k := 22) (v := .ref (a0 + 21)) dX7_firstKept_26 wF_X7_71 (Nat.le_of_ble_eq_true rfl) (Nat.le_of_ble_eq_true rfl) hW.1 (congrArg va_rf (w7r_21 hW)) ?_
        refine x_iload dX7_firstKept_29 4 rfl ?_
        obtain ⟨hv9, hw⟩ := hw
        refine x_ialdZ dX7_firstKept_31 (w7k_21 hW) (w7z_21 hW) hv9 ?_
        refine x_iload_n dX7_firstKept_32 rfl 2 rfl ?_
        refine x_icmp_ne 40 dX7_firstKept_33 rfl (fun hc10 => ?_) (fun hc10 => ?_)
        · replace hw := hw.2 hc10
          exact x_sub [0, 1, 2, 3, 4] rfl (xb_X7_firstKept_40 hW ih hw)
        · replace hw := hw.1 hc10
          refine x_iconst dX7_firstKept_36 cI_1 ?_
          refine x_goto 41 dX7_firstKept_37 rfl ?_
          exact x_sub [0, 1, 2, 3, 4] rfl (xb_X7_firstKept_41 hW ih hw)
def wp_X7_firstKept (σ : xS) (a0 : Nat) (l1 : Int32) (l2 : Int32) (Q : Int32 → Prop) : Prop := ∃ m5, wb_X7_firstKept_5 Q σ a0 m5 l1 l2 (-1) 0
set_option maxRecDepth 100000 in
set_option maxHeartbeats 4000000 in
theorem ct_X7_firstKept {σ : xS} {a0 : Nat}  {l1 : Int32} {l2 : Int32} {Q : Int32 → Prop} (hW : xw7 σ a0) (hw : wp_X7_firstKept σ a0 l1 l2 Q) : xCt M_X7_firstKept [.ref a0, .int l1, .int l2] σ (xqI (fun r σ2 => σ = σ2 ∧ Q r )) := by
  refine xCt_ofL (lv := [(0, .ref a0), (1, .int l1), (2, .int l2)]) pn_X7 (Nat.le_of_ble_eq_true rfl) rfl ?_
  unfold wp_X7_firstKept at hw
  refine x_iconst dX7_firstKept_0 cI_m1 ?_
  refine x_istore_n [(3, .int (-1)), (0, .ref a0), (1, .int l1), (2, .int l2)] dX7_firstKept_1 rfl (Nat.le_of_ble_eq_true rfl) rfl ?_
  refine x_iconst dX7_firstKept_2 cI_0 ?_
  refine x_istore [(4, .int 0), (3, .int (-1)), (0, .ref a0), (1, .int l1), (2, .int l2)] dX7_firstKept_3 (Nat.le_of_ble_eq_true rfl) rfl ?_
  obtain ⟨m5, hw⟩ := hw
  exact x_sub [2, 3, 4, 1, 0] rfl (xl_X7_firstKept_5 hW m5 _ _ _ _ hw)
-- PromiseWireModel.doesOne(III)V
def wb_X7_doesOne_81 (Q : xS → Prop) (σ : xS) (a0 : Nat) (l1 : Int32) (l2 : Int32) (l3 : Int32) : Prop := vp_in l1 100 ∧ (wp_X7_postsWhens σ a0 l1 (xh_a σ (a0 + 10) l1.toNatClampNeg) l2 l3 (fun σ2 => Q σ2))
set_option maxRecDepth 100000 in
set_option maxHeartbeats 4000000 in
theorem xb_X7_doesOne_81 {Q : xS → Prop} {σ : xS} {a0 : Nat}  {l1 : Int32} {l2 : Int32} {l3 : Int32} (hW : xw7 σ a0)  (hw : wb_X7_doesOne_81 Q σ a0 l1 l2 l3) : xX M_X7_doesOne 81 [(0, .ref a0), (1, .int l1), (2, .int l2), (3, .int l3)] [] σ (xqV (fun σ2 => xw7 σ2 a0 ∧ Q σ2)) := by
  unfold wb_X7_doesOne_81 at hw
  refine x_aload_n dX7_doesOne_81 rfl 0 rfl ?_
  refine x_iload_n dX7_doesOne_82 rfl 1 rfl ?_
  refine x_aload_n dX7_doesOne_83 rfl 0 rfl ?_
  refine x_get (ci := 7) (k := 11) (v := .ref (a0 + 10)) dX7_doesOne_84 wF_X7_38 (Nat.le_of_ble_eq_true rfl) (Nat.le_of_ble_eq_true rfl) hW.1 (congrArg va_rf (w7r_10 hW)) ?_
  refine x_iload_n dX7_doesOne_87 rfl 1 rfl ?_
  obtain ⟨hv1, hw⟩ := hw
  refine x_ialdZ dX7_doesOne_88 (w7k_10 hW) (w7z_10 hW) hv1 ?_
  refine x_iload_n dX7_doesOne_89 rfl 2 rfl ?_
  refine x_iload_n dX7_doesOne_90 rfl 3 rfl ?_
  refine x_callV (M2 := M_X7_postsWhens) (As := [.int l1, .int (xh_a σ (a0 + 10) l1.toNatClampNeg), .int l2, .int l3]) (st := []) (ci := 7) (Nat.le_of_ble_eq_true rfl) hW.1 rfl wM_X7_167 wI_X7_postsWhens wS_X7_postsWhens dX7_doesOne_91 rfl ok_X7_postsWhens ⟨(Nat.le_of_ble_eq_true rfl), (Nat.le_of_ble_eq_true rfl)⟩ (Nat.le_of_ble_eq_true rfl) (ct_X7_postsWhens hW hw) (xqV.k (fun σ2 hw2 => ?_))
  obtain ⟨hW, hw⟩ := hw2
  exact x_vret dX7_doesOne_94 rfl ⟨rfl, hW, hw⟩
def wb_X7_doesOne_22 (Q : xS → Prop) (a0 : Nat) : Nat → xS → Int32 → Int32 → Int32 → Int32 → Prop
  | 0, _, _, _, _, _ => False
  | n + 1, σ, l1, l2, l3, l4 => (l4 < 0 → vp_in l1 100 ∧ (vp_in l1 100 ∧ (((xh_a σ (a0 + 9) l1.toNatClampNeg) = (xh_a σ (a0 + 10) l1.toNatClampNeg) → wb_X7_doesOne_81 Q σ a0 l1 l2 l3) ∧ (¬ (xh_a σ (a0 + 9) l1.toNatClampNeg) = (xh_a σ (a0 + 10) l1.toNatClampNeg) → vp_in l1 100 ∧ (wp_X7_sendsAnswer σ a0 (xh_a σ (a0 + 10) l1.toNatClampNeg) l1 l2 l3 1 (fun σ8 => wb_X7_doesOne_81 Q σ8 a0 l1 l2 l3)))))) ∧ (¬ l4 < 0 → vp_in l1 100 ∧ (wp_X7_goesOn σ a0 l4 (xh_a σ (a0 + 10) l1.toNatClampNeg) l2 l3 (fun σ10 => wp_X7_firstKept σ10 a0 2 l1 (fun x11 => wb_X7_doesOne_22 Q a0 n σ10 l1 l2 l3 x11))))
set_option maxRecDepth 100000 in
set_option maxHeartbeats 4000000 in
theorem xl_X7_doesOne_22 {Q : xS → Prop} {a0 : Nat}  : ∀ (n : Nat) (σ : xS) (l1 : Int32) (l2 : Int32) (l3 : Int32) (l4 : Int32), xw7 σ a0 → wb_X7_doesOne_22 Q a0 n σ l1 l2 l3 l4 → xX M_X7_doesOne 22 [(0, .ref a0), (1, .int l1), (2, .int l2), (3, .int l3), (4, .int l4)] [] σ (xqV (fun σ2 => xw7 σ2 a0 ∧ Q σ2)) := by
  intro n
  induction n with
  | zero => intro σ l1 l2 l3 l4 hW hw; exact False.elim hw
  | succ n ih =>
    intro σ l1 l2 l3 l4 hW hw
    unfold wb_X7_doesOne_22 at hw
    refine x_iload dX7_doesOne_22 4 rfl ?_
    refine x_if_lt 52 dX7_doesOne_24 rfl (fun hc3 => ?_) (fun hc3 => ?_)
    · replace hw := hw.1 hc3
      refine x_aload_n dX7_doesOne_52 rfl 0 rfl ?_
      refine x_get (ci := 7) (k := 10) (v := .ref (a0 + 9)) dX7_doesOne_53 wF_X7_35 (Nat.le_of_ble_eq_true rfl) (Nat.le_of_ble_eq_true rfl) hW.1 (congrArg va_rf (w7r_9 hW)) ?_
      refine x_iload_n dX7_doesOne_56 rfl 1 rfl ?_
      obtain ⟨hv4, hw⟩ := hw
      refine x_ialdZ dX7_doesOne_57 (w7k_9 hW) (w7z_9 hW) hv4 ?_
      refine x_aload_n dX7_doesOne_58 rfl 0 rfl ?_
      refine x_get (ci := 7) (k := 11) (v := .ref (a0 + 10)) dX7_doesOne_59 wF_X7_38 (Nat.le_of_ble_eq_true rfl) (Nat.le_of_ble_eq_true rfl) hW.1 (congrArg va_rf (w7r_10 hW)) ?_
      refine x_iload_n dX7_doesOne_62 rfl 1 rfl ?_
      obtain ⟨hv5, hw⟩ := hw
      refine x_ialdZ dX7_doesOne_63 (w7k_10 hW) (w7z_10 hW) hv5 ?_
      refine x_icmp_eq 81 dX7_doesOne_64 rfl (fun hc6 => ?_) (fun hc6 => ?_)
      · replace hw := hw.1 hc6
        exact x_sub [0, 1, 2, 3] rfl (xb_X7_doesOne_81 hW hw)
      · replace hw := hw.2 hc6
        refine x_aload_n dX7_doesOne_67 rfl 0 rfl ?_
        refine x_aload_n dX7_doesOne_68 rfl 0 rfl ?_
        refine x_get (ci := 7) (k := 11) (v := .ref (a0 + 10)) dX7_doesOne_69 wF_X7_38 (Nat.le_of_ble_eq_true rfl) (Nat.le_of_ble_eq_true rfl) hW.1 (congrArg va_rf (w7r_10 hW)) ?_
        refine x_iload_n dX7_doesOne_72 rfl 1 rfl ?_
        obtain ⟨hv7, hw⟩ := hw
        refine x_ialdZ dX7_doesOne_73 (w7k_10 hW) (w7z_10 hW) hv7 ?_
        refine x_iload_n dX7_doesOne_74 rfl 1 rfl ?_
        refine x_iload_n dX7_doesOne_75 rfl 2 rfl ?_
        refine x_iload_n dX7_doesOne_76 rfl 3 rfl ?_
        refine x_iconst dX7_doesOne_77 cI_1 ?_
        refine x_callV (M2 := M_X7_sendsAnswer) (As := [.int (xh_a σ (a0 + 10) l1.toNatClampNeg), .int l1, .int l2, .int l3, .int 1]) (st := []) (ci := 7) (Nat.le_of_ble_eq_true rfl) hW.1 rfl wM_X7_181 wI_X7_sendsAnswer wS_X7_sendsAnswer dX7_doesOne_78 rfl ok_X7_sendsAnswer ⟨(Nat.le_of_ble_eq_true rfl), (Nat.le_of_ble_eq_true rfl)⟩ (Nat.le_of_ble_eq_true rfl) (ct_X7_sendsAnswer hW hw) (xqV.k (fun σ8 hw2 => ?_))
        obtain ⟨hW, hw⟩ := hw2
        exact x_sub [0, 1, 2, 3] rfl (xb_X7_doesOne_81 hW hw)
    · replace hw := hw.2 hc3
      refine x_aload_n dX7_doesOne_27 rfl 0 rfl ?_
      refine x_iload dX7_doesOne_28 4 rfl ?_
      refine x_aload_n dX7_doesOne_30 rfl 0 rfl ?_
      refine x_get (ci := 7) (k := 11) (v := .ref (a0 + 10)) dX7_doesOne_31 wF_X7_38 (Nat.le_of_ble_eq_true rfl) (Nat.le_of_ble_eq_true rfl) hW.1 (congrArg va_rf (w7r_10 hW)) ?_
      refine x_iload_n dX7_doesOne_34 rfl 1 rfl ?_
      obtain ⟨hv9, hw⟩ := hw
      refine x_ialdZ dX7_doesOne_35 (w7k_10 hW) (w7z_10 hW) hv9 ?_
      refine x_iload_n dX7_doesOne_36 rfl 2 rfl ?_
      refine x_iload_n dX7_doesOne_37 rfl 3 rfl ?_
      refine x_callV (M2 := M_X7_goesOn) (As := [.int l4, .int (xh_a σ (a0 + 10) l1.toNatClampNeg), .int l2, .int l3]) (st := []) (ci := 7) (Nat.le_of_ble_eq_true rfl) hW.1 rfl wM_X7_203 wI_X7_goesOn wS_X7_goesOn dX7_doesOne_38 rfl ok_X7_goesOn ⟨(Nat.le_of_ble_eq_true rfl), (Nat.le_of_ble_eq_true rfl)⟩ (Nat.le_of_ble_eq_true rfl) (ct_X7_goesOn hW hw) (xqV.k (fun σ10 hw2 => ?_))
      obtain ⟨hW, hw⟩ := hw2
      refine x_aload_n dX7_doesOne_41 rfl 0 rfl ?_
      refine x_iconst dX7_doesOne_42 cI_2 ?_
      refine x_iload_n dX7_doesOne_43 rfl 1 rfl ?_
      refine x_callV (M2 := M_X7_firstKept) (As := [.int 2, .int l1]) (st := []) (ci := 7) (Nat.le_of_ble_eq_true rfl) hW.1 rfl wM_X7_199 wI_X7_firstKept wS_X7_firstKept dX7_doesOne_44 rfl ok_X7_firstKept ⟨(Nat.le_of_ble_eq_true rfl), (Nat.le_of_ble_eq_true rfl)⟩ (Nat.le_of_ble_eq_true rfl) (ct_X7_firstKept hW hw) (xqI.k (fun x11 τ12 hw2 => ?_))
      obtain ⟨he, hw⟩ := hw2
      subst he
      refine x_istore [(4, .int x11), (0, .ref a0), (1, .int l1), (2, .int l2), (3, .int l3)] dX7_doesOne_47 (Nat.le_of_ble_eq_true rfl) rfl ?_
      refine x_goto 22 dX7_doesOne_49 rfl ?_
      exact x_sub [1, 2, 3, 4, 0] rfl (ih _ _ _ _ _ hW hw)
def wp_X7_doesOne (σ : xS) (a0 : Nat) (l1 : Int32) (l2 : Int32) (l3 : Int32) (Q : xS → Prop) : Prop := vp_in l1 100 ∧ ∀ σ14, σ14 = xs_a σ (a0 + 11) l1.toNatClampNeg l2 → (vp_in l1 100 ∧ ∀ σ16, σ16 = xs_a σ14 (a0 + 12) l1.toNatClampNeg l3 → (wp_X7_firstKept σ16 a0 2 l1 (fun x17 => ∃ m22, wb_X7_doesOne_22 Q a0 m22 σ16 l1 l2 l3 x17)))
set_option maxRecDepth 100000 in
set_option maxHeartbeats 4000000 in
theorem ct_X7_doesOne {σ : xS} {a0 : Nat}  {l1 : Int32} {l2 : Int32} {l3 : Int32} {Q : xS → Prop} (hW : xw7 σ a0) (hw : wp_X7_doesOne σ a0 l1 l2 l3 Q) : xCt M_X7_doesOne [.ref a0, .int l1, .int l2, .int l3] σ (xqV (fun σ2 => xw7 σ2 a0 ∧ Q σ2)) := by
  refine xCt_ofL (lv := [(0, .ref a0), (1, .int l1), (2, .int l2), (3, .int l3)]) pn_X7 (Nat.le_of_ble_eq_true rfl) rfl ?_
  unfold wp_X7_doesOne at hw
  refine x_aload_n dX7_doesOne_0 rfl 0 rfl ?_
  refine x_get (ci := 7) (k := 12) (v := .ref (a0 + 11)) dX7_doesOne_1 wF_X7_41 (Nat.le_of_ble_eq_true rfl) (Nat.le_of_ble_eq_true rfl) hW.1 (congrArg va_rf (w7r_11 hW)) ?_
  refine x_iload_n dX7_doesOne_4 rfl 1 rfl ?_
  refine x_iload_n dX7_doesOne_5 rfl 2 rfl ?_
  obtain ⟨hv13, hw⟩ := hw
  refine x_iastN dX7_doesOne_6 (w7k_11 hW) (w7z_11 hW) hv13 (fun σ14 hσ14 => ?_)
  replace hw := hw σ14 hσ14
  refine x_aload_n dX7_doesOne_7 rfl 0 rfl ?_
  have hW := (xw7_a hσ14 hW)
  refine x_get (ci := 7) (k := 13) (v := .ref (a0 + 12)) dX7_doesOne_8 wF_X7_44 (Nat.le_of_ble_eq_true rfl) (Nat.le_of_ble_eq_true rfl) hW.1 (congrArg va_rf (w7r_12 hW)) ?_
  refine x_iload_n dX7_doesOne_11 rfl 1 rfl ?_
  refine x_iload_n dX7_doesOne_12 rfl 3 rfl ?_
  obtain ⟨hv15, hw⟩ := hw
  refine x_iastN dX7_doesOne_13 (w7k_12 hW) (w7z_12 hW) hv15 (fun σ16 hσ16 => ?_)
  replace hw := hw σ16 hσ16
  refine x_aload_n dX7_doesOne_14 rfl 0 rfl ?_
  refine x_iconst dX7_doesOne_15 cI_2 ?_
  refine x_iload_n dX7_doesOne_16 rfl 1 rfl ?_
  have hW := (xw7_a hσ16 hW)
  refine x_callV (M2 := M_X7_firstKept) (As := [.int 2, .int l1]) (st := []) (ci := 7) (Nat.le_of_ble_eq_true rfl) hW.1 rfl wM_X7_199 wI_X7_firstKept wS_X7_firstKept dX7_doesOne_17 rfl ok_X7_firstKept ⟨(Nat.le_of_ble_eq_true rfl), (Nat.le_of_ble_eq_true rfl)⟩ (Nat.le_of_ble_eq_true rfl) (ct_X7_firstKept hW hw) (xqI.k (fun x17 τ18 hw2 => ?_))
  obtain ⟨he, hw⟩ := hw2
  subst he
  refine x_istore [(4, .int x17), (0, .ref a0), (1, .int l1), (2, .int l2), (3, .int l3)] dX7_doesOne_20 (Nat.le_of_ble_eq_true rfl) rfl ?_
  obtain ⟨m22, hw⟩ := hw
  exact x_sub [1, 2, 3, 4, 0] rfl (xl_X7_doesOne_22 m22 _ _ _ _ _ hW hw)
-- PromiseWireModel.doesAll()V
def wb_X7_doesAll_2 (Q : xS → Prop) (a0 : Nat) : Nat → xS → Int32 → Prop
  | 0, _, _ => False
  | n + 1, σ, l1 => ((xh_I σ 489 a0) ≤ l1 → ∀ σ2, σ2 = xs_I σ 489 a0 0 → (Q σ2)) ∧ (¬ (xh_I σ 489 a0) ≤ l1 → vp_in l1 400 ∧ (vp_in l1 400 ∧ (vp_in l1 400 ∧ (wp_X7_doesOne σ a0 (xh_a σ (a0 + 37) l1.toNatClampNeg) (xh_a σ (a0 + 38) l1.toNatClampNeg) (xh_a σ (a0 + 39) l1.toNatClampNeg) (fun σ6 => wb_X7_doesAll_2 Q a0 n σ6 (l1 + 1))))))
set_option maxRecDepth 100000 in
set_option maxHeartbeats 4000000 in
theorem xl_X7_doesAll_2 {Q : xS → Prop} {a0 : Nat}  : ∀ (n : Nat) (σ : xS) (l1 : Int32), xw7 σ a0 → wb_X7_doesAll_2 Q a0 n σ l1 → xX M_X7_doesAll 2 [(0, .ref a0), (1, .int l1)] [] σ (xqV (fun σ2 => xw7 σ2 a0 ∧ Q σ2)) := by
  intro n
  induction n with
  | zero => intro σ l1 hW hw; exact False.elim hw
  | succ n ih =>
    intro σ l1 hW hw
    unfold wb_X7_doesAll_2 at hw
    refine x_iload_n dX7_doesAll_2 rfl 1 rfl ?_
    refine x_aload_n dX7_doesAll_3 rfl 0 rfl ?_
    refine x_get (ci := 7) (k := 41) (v := .int (xh_I σ 489 a0)) dX7_doesAll_4 wF_X7_164 (Nat.le_of_ble_eq_true rfl) (Nat.le_of_ble_eq_true rfl) hW.1 rfl ?_
    refine x_icmp_ge 38 dX7_doesAll_7 rfl (fun hc1 => ?_) (fun hc1 => ?_)
    · replace hw := hw.1 hc1
      refine x_aload_n dX7_doesAll_38 rfl 0 rfl ?_
      refine x_iconst dX7_doesAll_39 cI_0 ?_
      refine x_putIN (ci := 7) (k := 41) (f := 489) dX7_doesAll_40 wF_X7_164 (Nat.le_of_ble_eq_true rfl) (Nat.le_of_ble_eq_true rfl) hW.1 (Or.inl rfl) rfl (Or.inl rfl) (fun σ2 hσ2 => ?_)
      replace hw := hw σ2 hσ2
      have hW := (xw7_I hσ2 hW)
      exact x_vret dX7_doesAll_43 rfl ⟨rfl, hW, hw⟩
    · replace hw := hw.2 hc1
      refine x_aload_n dX7_doesAll_10 rfl 0 rfl ?_
      refine x_aload_n dX7_doesAll_11 rfl 0 rfl ?_
      refine x_get (ci := 7) (k := 42) (v := .ref (a0 + 37)) dX7_doesAll_12 wF_X7_119 (Nat.le_of_ble_eq_true rfl) (Nat.le_of_ble_eq_true rfl) hW.1 (congrArg va_rf (w7r_37 hW)) ?_
      refine x_iload_n dX7_doesAll_15 rfl 1 rfl ?_
      obtain ⟨hv3, hw⟩ := hw
      refine x_ialdZ dX7_doesAll_16 (w7k_37 hW) (w7z_37 hW) hv3 ?_
      refine x_aload_n dX7_doesAll_17 rfl 0 rfl ?_
      refine x_get (ci := 7) (k := 43) (v := .ref (a0 + 38)) dX7_doesAll_18 wF_X7_122 (Nat.le_of_ble_eq_true rfl) (Nat.le_of_ble_eq_true rfl) hW.1 (congrArg va_rf (w7r_38 hW)) ?_
      refine x_iload_n dX7_doesAll_21 rfl 1 rfl ?_
      obtain ⟨hv4, hw⟩ := hw
      refine x_ialdZ dX7_doesAll_22 (w7k_38 hW) (w7z_38 hW) hv4 ?_
      refine x_aload_n dX7_doesAll_23 rfl 0 rfl ?_
      refine x_get (ci := 7) (k := 44) (v := .ref (a0 + 39)) dX7_doesAll_24 wF_X7_125 (Nat.le_of_ble_eq_true rfl) (Nat.le_of_ble_eq_true rfl) hW.1 (congrArg va_rf (w7r_39 hW)) ?_
      refine x_iload_n dX7_doesAll_27 rfl 1 rfl ?_
      obtain ⟨hv5, hw⟩ := hw
      refine x_ialdZ dX7_doesAll_28 (w7k_39 hW) (w7z_39 hW) hv5 ?_
      refine x_callV (M2 := M_X7_doesOne) (As := [.int (xh_a σ (a0 + 37) l1.toNatClampNeg), .int (xh_a σ (a0 + 38) l1.toNatClampNeg), .int (xh_a σ (a0 + 39) l1.toNatClampNeg)]) (st := []) (ci := 7) (Nat.le_of_ble_eq_true rfl) hW.1 rfl wM_X7_206 wI_X7_doesOne wS_X7_doesOne dX7_doesAll_29 rfl ok_X7_doesOne ⟨(Nat.le_of_ble_eq_true rfl), (Nat.le_of_ble_eq_true rfl)⟩ (Nat.le_of_ble_eq_true rfl) (ct_X7_doesOne hW hw) (xqV.k (fun σ6 hw2 => ?_))
      obtain ⟨hW, hw⟩ := hw2
      refine x_iinc [(1, .int (l1 + 1)), (0, .ref a0)] dX7_doesAll_32 1 rfl (congrArg _ cI_1) (Nat.le_of_ble_eq_true rfl) rfl ?_
      refine x_goto 2 dX7_doesAll_35 rfl ?_
      exact x_sub [1, 0] rfl (ih _ _ hW hw)
def wp_X7_doesAll (σ : xS) (a0 : Nat) (Q : xS → Prop) : Prop := ∃ m2, wb_X7_doesAll_2 Q a0 m2 σ 0
set_option maxRecDepth 100000 in
set_option maxHeartbeats 4000000 in
theorem ct_X7_doesAll {σ : xS} {a0 : Nat}  {Q : xS → Prop} (hW : xw7 σ a0) (hw : wp_X7_doesAll σ a0 Q) : xCt M_X7_doesAll [.ref a0] σ (xqV (fun σ2 => xw7 σ2 a0 ∧ Q σ2)) := by
  refine xCt_ofL (lv := [(0, .ref a0)]) pn_X7 (Nat.le_of_ble_eq_true rfl) rfl ?_
  unfold wp_X7_doesAll at hw
  refine x_iconst dX7_doesAll_0 cI_0 ?_
  refine x_istore_n [(1, .int 0), (0, .ref a0)] dX7_doesAll_1 rfl (Nat.le_of_ble_eq_true rfl) rfl ?_
  obtain ⟨m2, hw⟩ := hw
  exact x_sub [1, 0] rfl (xl_X7_doesAll_2 m2 _ _ hW hw)
-- PromiseWireModel.answers(III)V
def wb_X7_answers_23 (Q : xS → Prop) (σ : xS) (a0 : Nat) : Prop := Q σ
set_option maxRecDepth 100000 in
set_option maxHeartbeats 4000000 in
theorem xb_X7_answers_23 {Q : xS → Prop} {σ : xS} {a0 : Nat}  (hW : xw7 σ a0)  (hw : wb_X7_answers_23 Q σ a0) : xX M_X7_answers 23 [(0, .ref a0)] [] σ (xqV (fun σ2 => xw7 σ2 a0 ∧ Q σ2)) := by
  unfold wb_X7_answers_23 at hw
  exact x_vret dX7_answers_23 rfl ⟨rfl, hW, hw⟩
def wp_X7_answers (σ : xS) (a0 : Nat) (l1 : Int32) (l2 : Int32) (l3 : Int32) (Q : xS → Prop) : Prop := ((xh_I σ 495 a0) < 0 → wb_X7_answers_23 Q σ a0) ∧ (¬ (xh_I σ 495 a0) < 0 → vp_in l1 40 ∧ (wp_X7_settles σ a0 (xh_I σ 495 a0) (xh_a σ (a0 + 1) l1.toNatClampNeg) l2 l3 (fun σ3 => wb_X7_answers_23 Q σ3 a0)))
set_option maxRecDepth 100000 in
set_option maxHeartbeats 4000000 in
theorem ct_X7_answers {σ : xS} {a0 : Nat}  {l1 : Int32} {l2 : Int32} {l3 : Int32} {Q : xS → Prop} (hW : xw7 σ a0) (hw : wp_X7_answers σ a0 l1 l2 l3 Q) : xCt M_X7_answers [.ref a0, .int l1, .int l2, .int l3] σ (xqV (fun σ2 => xw7 σ2 a0 ∧ Q σ2)) := by
  refine xCt_ofL (lv := [(0, .ref a0), (1, .int l1), (2, .int l2), (3, .int l3)]) pn_X7 (Nat.le_of_ble_eq_true rfl) rfl ?_
  unfold wp_X7_answers at hw
  refine x_aload_n dX7_answers_0 rfl 0 rfl ?_
  refine x_get (ci := 7) (k := 47) (v := .int (xh_I σ 495 a0)) dX7_answers_1 wF_X7_209 (Nat.le_of_ble_eq_true rfl) (Nat.le_of_ble_eq_true rfl) hW.1 rfl ?_
  refine x_if_lt 23 dX7_answers_4 rfl (fun hc1 => ?_) (fun hc1 => ?_)
  · replace hw := hw.1 hc1
    exact x_sub [0] rfl (xb_X7_answers_23 hW hw)
  · replace hw := hw.2 hc1
    refine x_aload_n dX7_answers_7 rfl 0 rfl ?_
    refine x_aload_n dX7_answers_8 rfl 0 rfl ?_
    refine x_get (ci := 7) (k := 47) (v := .int (xh_I σ 495 a0)) dX7_answers_9 wF_X7_209 (Nat.le_of_ble_eq_true rfl) (Nat.le_of_ble_eq_true rfl) hW.1 rfl ?_
    refine x_aload_n dX7_answers_12 rfl 0 rfl ?_
    refine x_get (ci := 7) (k := 1) (v := .ref (a0 + 1)) dX7_answers_13 wF_X7_7 (Nat.le_of_ble_eq_true rfl) (Nat.le_of_ble_eq_true rfl) hW.1 (congrArg va_rf (w7r_1 hW)) ?_
    refine x_iload_n dX7_answers_16 rfl 1 rfl ?_
    obtain ⟨hv2, hw⟩ := hw
    refine x_ialdZ dX7_answers_17 (w7k_1 hW) (w7z_1 hW) hv2 ?_
    refine x_iload_n dX7_answers_18 rfl 2 rfl ?_
    refine x_iload_n dX7_answers_19 rfl 3 rfl ?_
    refine x_callV (M2 := M_X7_settles) (As := [.int (xh_I σ 495 a0), .int (xh_a σ (a0 + 1) l1.toNatClampNeg), .int l2, .int l3]) (st := []) (ci := 7) (Nat.le_of_ble_eq_true rfl) hW.1 rfl wM_X7_185 wI_X7_settles wS_X7_settles dX7_answers_20 rfl ok_X7_settles ⟨(Nat.le_of_ble_eq_true rfl), (Nat.le_of_ble_eq_true rfl)⟩ (Nat.le_of_ble_eq_true rfl) (ct_X7_settles hW hw) (xqV.k (fun σ3 hw2 => ?_))
    obtain ⟨hW, hw⟩ := hw2
    exact x_sub [0] rfl (xb_X7_answers_23 hW hw)
-- PromiseWireModel.breaks(II)V
def wp_X7_breaks (σ : xS) (a0 : Nat) (l1 : Int32) (l2 : Int32) (Q : xS → Prop) : Prop := wp_X7_answers σ a0 l1 3 l2 (fun σ1 => Q σ1)
set_option maxRecDepth 100000 in
set_option maxHeartbeats 4000000 in
theorem ct_X7_breaks {σ : xS} {a0 : Nat}  {l1 : Int32} {l2 : Int32} {Q : xS → Prop} (hW : xw7 σ a0) (hw : wp_X7_breaks σ a0 l1 l2 Q) : xCt M_X7_breaks [.ref a0, .int l1, .int l2] σ (xqV (fun σ2 => xw7 σ2 a0 ∧ Q σ2)) := by
  refine xCt_ofL (lv := [(0, .ref a0), (1, .int l1), (2, .int l2)]) pn_X7 (Nat.le_of_ble_eq_true rfl) rfl ?_
  unfold wp_X7_breaks at hw
  refine x_aload_n dX7_breaks_0 rfl 0 rfl ?_
  refine x_iload_n dX7_breaks_1 rfl 1 rfl ?_
  refine x_iconst dX7_breaks_2 cI_3 ?_
  refine x_iload_n dX7_breaks_3 rfl 2 rfl ?_
  refine x_callV (M2 := M_X7_answers) (As := [.int l1, .int 3, .int l2]) (st := []) (ci := 7) (Nat.le_of_ble_eq_true rfl) hW.1 rfl wM_X7_212 wI_X7_answers wS_X7_answers dX7_breaks_4 rfl ok_X7_answers ⟨(Nat.le_of_ble_eq_true rfl), (Nat.le_of_ble_eq_true rfl)⟩ (Nat.le_of_ble_eq_true rfl) (ct_X7_answers hW hw) (xqV.k (fun σ1 hw2 => ?_))
  obtain ⟨hW, hw⟩ := hw2
  exact x_vret dX7_breaks_7 rfl ⟨rfl, hW, hw⟩
-- PromiseWireModel.cell(I)V
def wb_X7_cell_168 (Q : xS → Prop) (σ : xS) (a0 : Nat) : Prop := Q σ
set_option maxRecDepth 100000 in
set_option maxHeartbeats 4000000 in
theorem xb_X7_cell_168 {Q : xS → Prop} {σ : xS} {a0 : Nat}  (hW : xw7 σ a0)  (hw : wb_X7_cell_168 Q σ a0) : xX M_X7_cell 168 [(0, .ref a0)] [] σ (xqV (fun σ2 => xw7 σ2 a0 ∧ Q σ2)) := by
  unfold wb_X7_cell_168 at hw
  exact x_vret dX7_cell_168 rfl ⟨rfl, hW, hw⟩
def wb_X7_cell_162 (Q : xS → Prop) (σ : xS) (a0 : Nat) (l1 : Int32) : Prop := wp_X7_breaks σ a0 l1 3 (fun σ1 => wb_X7_cell_168 Q σ1 a0)
set_option maxRecDepth 100000 in
set_option maxHeartbeats 4000000 in
theorem xb_X7_cell_162 {Q : xS → Prop} {σ : xS} {a0 : Nat}  {l1 : Int32} (hW : xw7 σ a0)  (hw : wb_X7_cell_162 Q σ a0 l1) : xX M_X7_cell 162 [(0, .ref a0), (1, .int l1)] [] σ (xqV (fun σ2 => xw7 σ2 a0 ∧ Q σ2)) := by
  unfold wb_X7_cell_162 at hw
  refine x_aload_n dX7_cell_162 rfl 0 rfl ?_
  refine x_iload_n dX7_cell_163 rfl 1 rfl ?_
  refine x_iconst dX7_cell_164 cI_3 ?_
  refine x_callV (M2 := M_X7_breaks) (As := [.int l1, .int 3]) (st := []) (ci := 7) (Nat.le_of_ble_eq_true rfl) hW.1 rfl wM_X7_225 wI_X7_breaks wS_X7_breaks dX7_cell_165 rfl ok_X7_breaks ⟨(Nat.le_of_ble_eq_true rfl), (Nat.le_of_ble_eq_true rfl)⟩ (Nat.le_of_ble_eq_true rfl) (ct_X7_breaks hW hw) (xqV.k (fun σ1 hw2 => ?_))
  obtain ⟨hW, hw⟩ := hw2
  exact x_sub [0] rfl (xb_X7_cell_168 hW hw)
def wp_X7_cell (σ : xS) (a0 : Nat) (l1 : Int32) (Q : xS → Prop) : Prop := vp_in l1 40 ∧ (∀ σ3, σ3 = xs_L σ 494 a0 ((xh_L σ 494 a0) + 1) → (((xh_I σ3 496 a0) = 0 → wp_X7_answers σ3 a0 l1 1 (xh_a σ (a0 + 3) l1.toNatClampNeg) (fun σ5 => wb_X7_cell_168 Q σ5 a0)) ∧ (¬ (xh_I σ3 496 a0) = 0 → ((xh_I σ3 496 a0) = 1 → vp_in l1 40 ∧ ∀ σ8, σ8 = xs_a σ3 (a0 + 3) l1.toNatClampNeg (xh_I σ3 497 a0) → (wp_X7_answers σ8 a0 l1 1 (xh_a σ (a0 + 3) l1.toNatClampNeg) (fun σ9 => wb_X7_cell_168 Q σ9 a0))) ∧ (¬ (xh_I σ3 496 a0) = 1 → ((xh_I σ3 496 a0) = 2 → vp_in l1 40 ∧ ∀ σ12, σ12 = xs_a σ3 (a0 + 3) l1.toNatClampNeg ((xh_a σ (a0 + 3) l1.toNatClampNeg) + (xh_I σ3 497 a0)) → (vp_in l1 40 ∧ (wp_X7_answers σ12 a0 l1 1 (xh_a σ12 (a0 + 3) l1.toNatClampNeg) (fun σ14 => wb_X7_cell_168 Q σ14 a0)))) ∧ (¬ (xh_I σ3 496 a0) = 2 → ((xh_I σ3 496 a0) = 3 → vp_in l1 40 ∧ ∀ σ17, σ17 = xs_a σ3 (a0 + 3) l1.toNatClampNeg ((xh_a σ (a0 + 3) l1.toNatClampNeg) - (xh_I σ3 497 a0)) → (vp_in l1 40 ∧ (wp_X7_answers σ17 a0 l1 1 (xh_a σ17 (a0 + 3) l1.toNatClampNeg) (fun σ19 => wb_X7_cell_168 Q σ19 a0)))) ∧ (¬ (xh_I σ3 496 a0) = 3 → ((xh_I σ3 496 a0) = 4 → wb_X7_cell_162 Q σ3 a0 l1) ∧ (¬ (xh_I σ3 496 a0) = 4 → ((xh_I σ3 496 a0) = 5 → wb_X7_cell_162 Q σ3 a0 l1) ∧ (¬ (xh_I σ3 496 a0) = 5 → ((xh_I σ3 496 a0) = 6 → wb_X7_cell_162 Q σ3 a0 l1) ∧ (¬ (xh_I σ3 496 a0) = 6 → ((xh_I σ3 496 a0) = 7 → wp_X7_answers σ3 a0 l1 2 l1 (fun σ24 => wb_X7_cell_168 Q σ24 a0)) ∧ (¬ (xh_I σ3 496 a0) = 7 → wb_X7_cell_162 Q σ3 a0 l1))))))))))
set_option maxRecDepth 100000 in
set_option maxHeartbeats 4000000 in
theorem ct_X7_cell {σ : xS} {a0 : Nat}  {l1 : Int32} {Q : xS → Prop} (hW : xw7 σ a0) (hw : wp_X7_cell σ a0 l1 Q) : xCt M_X7_cell [.ref a0, .int l1] σ (xqV (fun σ2 => xw7 σ2 a0 ∧ Q σ2)) := by
  refine xCt_ofL (lv := [(0, .ref a0), (1, .int l1)]) pn_X7 (Nat.le_of_ble_eq_true rfl) rfl ?_
  unfold wp_X7_cell at hw
  refine x_aload_n dX7_cell_0 rfl 0 rfl ?_
  refine x_get (ci := 7) (k := 3) (v := .ref (a0 + 3)) dX7_cell_1 wF_X7_16 (Nat.le_of_ble_eq_true rfl) (Nat.le_of_ble_eq_true rfl) hW.1 (congrArg va_rf (w7r_3 hW)) ?_
  refine x_iload_n dX7_cell_4 rfl 1 rfl ?_
  obtain ⟨hv2, hw⟩ := hw
  refine x_ialdZ dX7_cell_5 (w7k_3 hW) (w7z_3 hW) hv2 ?_
  refine x_istore_n [(2, .int (xh_a σ (a0 + 3) l1.toNatClampNeg)), (0, .ref a0), (1, .int l1)] dX7_cell_6 rfl (Nat.le_of_ble_eq_true rfl) rfl ?_
  refine x_aload_n dX7_cell_7 rfl 1 rfl ?_
  refine x_dup dX7_cell_8 rfl ?_
  refine x_get (ci := 7) (k := 46) (v := .long (xh_L σ 494 a0)) dX7_cell_9 wF_X7_215 (Nat.le_of_ble_eq_true rfl) (Nat.le_of_ble_eq_true rfl) hW.1 rfl ?_
  refine x_lconst dX7_cell_12 cL_1 ?_
  refine x_ladd dX7_cell_13 ?_
  refine x_putLN (ci := 7) (k := 46) (f := 494) dX7_cell_14 wF_X7_215 (Nat.le_of_ble_eq_true rfl) (Nat.le_of_ble_eq_true rfl) hW.1 (Or.inl rfl) rfl rfl (fun σ3 hσ3 => ?_)
  replace hw := hw σ3 hσ3
  refine x_aload_n dX7_cell_17 rfl 1 rfl ?_
  have hW := (xw7_L hσ3 hW)
  refine x_get (ci := 7) (k := 48) (v := .int (xh_I σ3 496 a0)) dX7_cell_18 wF_X7_219 (Nat.le_of_ble_eq_true rfl) (Nat.le_of_ble_eq_true rfl) hW.1 rfl ?_
  by_cases hc4 : (xh_I σ3 496 a0) = 0
  · replace hw := hw.1 hc4
    refine x_tableIn (off := 47) 68 dX7_cell_21 (by rw [hc4]; decide) (by rw [hc4]; decide) (by rw [hc4]; rfl) rfl ?_
    refine x_aload_n dX7_cell_68 rfl 1 rfl ?_
    refine x_iload_n dX7_cell_69 rfl 2 rfl ?_
    refine x_iconst dX7_cell_70 cI_1 ?_
    refine x_iload_n dX7_cell_71 rfl 0 rfl ?_
    refine x_callV (M2 := M_X7_answers) (As := [.int l1, .int 1, .int (xh_a σ (a0 + 3) l1.toNatClampNeg)]) (st := []) (ci := 7) (Nat.le_of_ble_eq_true rfl) hW.1 rfl wM_X7_212 wI_X7_answers wS_X7_answers dX7_cell_72 rfl ok_X7_answers ⟨(Nat.le_of_ble_eq_true rfl), (Nat.le_of_ble_eq_true rfl)⟩ (Nat.le_of_ble_eq_true rfl) (ct_X7_answers hW hw) (xqV.k (fun σ5 hw2 => ?_))
    obtain ⟨hW, hw⟩ := hw2
    refine x_goto 168 dX7_cell_75 rfl ?_
    exact x_sub [1] rfl (xb_X7_cell_168 hW hw)
  · replace hw := hw.2 hc4
    by_cases hc6 : (xh_I σ3 496 a0) = 1
    · replace hw := hw.1 hc6
      refine x_tableIn (off := 57) 78 dX7_cell_21 (by rw [hc6]; decide) (by rw [hc6]; decide) (by rw [hc6]; rfl) rfl ?_
      refine x_aload_n dX7_cell_78 rfl 1 rfl ?_
      refine x_get (ci := 7) (k := 3) (v := .ref (a0 + 3)) dX7_cell_79 wF_X7_16 (Nat.le_of_ble_eq_true rfl) (Nat.le_of_ble_eq_true rfl) hW.1 (congrArg va_rf (w7r_3 hW)) ?_
      refine x_iload_n dX7_cell_82 rfl 2 rfl ?_
      refine x_aload_n dX7_cell_83 rfl 1 rfl ?_
      refine x_get (ci := 7) (k := 49) (v := .int (xh_I σ3 497 a0)) dX7_cell_84 wF_X7_222 (Nat.le_of_ble_eq_true rfl) (Nat.le_of_ble_eq_true rfl) hW.1 rfl ?_
      obtain ⟨hv7, hw⟩ := hw
      refine x_iastN dX7_cell_87 (w7k_3 hW) (w7z_3 hW) hv7 (fun σ8 hσ8 => ?_)
      replace hw := hw σ8 hσ8
      refine x_aload_n dX7_cell_88 rfl 1 rfl ?_
      refine x_iload_n dX7_cell_89 rfl 2 rfl ?_
      refine x_iconst dX7_cell_90 cI_1 ?_
      refine x_iload_n dX7_cell_91 rfl 0 rfl ?_
      have hW := (xw7_a hσ8 hW)
      refine x_callV (M2 := M_X7_answers) (As := [.int l1, .int 1, .int (xh_a σ (a0 + 3) l1.toNatClampNeg)]) (st := []) (ci := 7) (Nat.le_of_ble_eq_true rfl) hW.1 rfl wM_X7_212 wI_X7_answers wS_X7_answers dX7_cell_92 rfl ok_X7_answers ⟨(Nat.le_of_ble_eq_true rfl), (Nat.le_of_ble_eq_true rfl)⟩ (Nat.le_of_ble_eq_true rfl) (ct_X7_answers hW hw) (xqV.k (fun σ9 hw2 => ?_))
      obtain ⟨hW, hw⟩ := hw2
      refine x_goto 168 dX7_cell_95 rfl ?_
      exact x_sub [1] rfl (xb_X7_cell_168 hW hw)
    · replace hw := hw.2 hc6
      by_cases hc10 : (xh_I σ3 496 a0) = 2
      · replace hw := hw.1 hc10
        refine x_tableIn (off := 77) 98 dX7_cell_21 (by rw [hc10]; decide) (by rw [hc10]; decide) (by rw [hc10]; rfl) rfl ?_
        refine x_aload_n dX7_cell_98 rfl 1 rfl ?_
        refine x_get (ci := 7) (k := 3) (v := .ref (a0 + 3)) dX7_cell_99 wF_X7_16 (Nat.le_of_ble_eq_true rfl) (Nat.le_of_ble_eq_true rfl) hW.1 (congrArg va_rf (w7r_3 hW)) ?_
        refine x_iload_n dX7_cell_102 rfl 2 rfl ?_
        refine x_iload_n dX7_cell_103 rfl 0 rfl ?_
        refine x_aload_n dX7_cell_104 rfl 1 rfl ?_
        refine x_get (ci := 7) (k := 49) (v := .int (xh_I σ3 497 a0)) dX7_cell_105 wF_X7_222 (Nat.le_of_ble_eq_true rfl) (Nat.le_of_ble_eq_true rfl) hW.1 rfl ?_
        refine x_iadd dX7_cell_108 ?_
        obtain ⟨hv11, hw⟩ := hw
        refine x_iastN dX7_cell_109 (w7k_3 hW) (w7z_3 hW) hv11 (fun σ12 hσ12 => ?_)
        replace hw := hw σ12 hσ12
        refine x_aload_n dX7_cell_110 rfl 1 rfl ?_
        refine x_iload_n dX7_cell_111 rfl 2 rfl ?_
        refine x_iconst dX7_cell_112 cI_1 ?_
        refine x_aload_n dX7_cell_113 rfl 1 rfl ?_
        have hW := (xw7_a hσ12 hW)
        refine x_get (ci := 7) (k := 3) (v := .ref (a0 + 3)) dX7_cell_114 wF_X7_16 (Nat.le_of_ble_eq_true rfl) (Nat.le_of_ble_eq_true rfl) hW.1 (congrArg va_rf (w7r_3 hW)) ?_
        refine x_iload_n dX7_cell_117 rfl 2 rfl ?_
        obtain ⟨hv13, hw⟩ := hw
        refine x_ialdZ dX7_cell_118 (w7k_3 hW) (w7z_3 hW) hv13 ?_
        refine x_callV (M2 := M_X7_answers) (As := [.int l1, .int 1, .int (xh_a σ12 (a0 + 3) l1.toNatClampNeg)]) (st := []) (ci := 7) (Nat.le_of_ble_eq_true rfl) hW.1 rfl wM_X7_212 wI_X7_answers wS_X7_answers dX7_cell_119 rfl ok_X7_answers ⟨(Nat.le_of_ble_eq_true rfl), (Nat.le_of_ble_eq_true rfl)⟩ (Nat.le_of_ble_eq_true rfl) (ct_X7_answers hW hw) (xqV.k (fun σ14 hw2 => ?_))
        obtain ⟨hW, hw⟩ := hw2
        refine x_goto 168 dX7_cell_122 rfl ?_
        exact x_sub [1] rfl (xb_X7_cell_168 hW hw)
      · replace hw := hw.2 hc10
        by_cases hc15 : (xh_I σ3 496 a0) = 3
        · replace hw := hw.1 hc15
          refine x_tableIn (off := 104) 125 dX7_cell_21 (by rw [hc15]; decide) (by rw [hc15]; decide) (by rw [hc15]; rfl) rfl ?_
          refine x_aload_n dX7_cell_125 rfl 1 rfl ?_
          refine x_get (ci := 7) (k := 3) (v := .ref (a0 + 3)) dX7_cell_126 wF_X7_16 (Nat.le_of_ble_eq_true rfl) (Nat.le_of_ble_eq_true rfl) hW.1 (congrArg va_rf (w7r_3 hW)) ?_
          refine x_iload_n dX7_cell_129 rfl 2 rfl ?_
          refine x_iload_n dX7_cell_130 rfl 0 rfl ?_
          refine x_aload_n dX7_cell_131 rfl 1 rfl ?_
          refine x_get (ci := 7) (k := 49) (v := .int (xh_I σ3 497 a0)) dX7_cell_132 wF_X7_222 (Nat.le_of_ble_eq_true rfl) (Nat.le_of_ble_eq_true rfl) hW.1 rfl ?_
          refine x_isub dX7_cell_135 ?_
          obtain ⟨hv16, hw⟩ := hw
          refine x_iastN dX7_cell_136 (w7k_3 hW) (w7z_3 hW) hv16 (fun σ17 hσ17 => ?_)
          replace hw := hw σ17 hσ17
          refine x_aload_n dX7_cell_137 rfl 1 rfl ?_
          refine x_iload_n dX7_cell_138 rfl 2 rfl ?_
          refine x_iconst dX7_cell_139 cI_1 ?_
          refine x_aload_n dX7_cell_140 rfl 1 rfl ?_
          have hW := (xw7_a hσ17 hW)
          refine x_get (ci := 7) (k := 3) (v := .ref (a0 + 3)) dX7_cell_141 wF_X7_16 (Nat.le_of_ble_eq_true rfl) (Nat.le_of_ble_eq_true rfl) hW.1 (congrArg va_rf (w7r_3 hW)) ?_
          refine x_iload_n dX7_cell_144 rfl 2 rfl ?_
          obtain ⟨hv18, hw⟩ := hw
          refine x_ialdZ dX7_cell_145 (w7k_3 hW) (w7z_3 hW) hv18 ?_
          refine x_callV (M2 := M_X7_answers) (As := [.int l1, .int 1, .int (xh_a σ17 (a0 + 3) l1.toNatClampNeg)]) (st := []) (ci := 7) (Nat.le_of_ble_eq_true rfl) hW.1 rfl wM_X7_212 wI_X7_answers wS_X7_answers dX7_cell_146 rfl ok_X7_answers ⟨(Nat.le_of_ble_eq_true rfl), (Nat.le_of_ble_eq_true rfl)⟩ (Nat.le_of_ble_eq_true rfl) (ct_X7_answers hW hw) (xqV.k (fun σ19 hw2 => ?_))
          obtain ⟨hW, hw⟩ := hw2
          refine x_goto 168 dX7_cell_149 rfl ?_
          exact x_sub [1] rfl (xb_X7_cell_168 hW hw)
        · replace hw := hw.2 hc15
          by_cases hc20 : (xh_I σ3 496 a0) = 4
          · replace hw := hw.1 hc20
            refine x_tableIn (off := 141) 162 dX7_cell_21 (by rw [hc20]; decide) (by rw [hc20]; decide) (by rw [hc20]; rfl) rfl ?_
            exact x_sub [1, 2] rfl (xb_X7_cell_162 hW hw)
          · replace hw := hw.2 hc20
            by_cases hc21 : (xh_I σ3 496 a0) = 5
            · replace hw := hw.1 hc21
              refine x_tableIn (off := 141) 162 dX7_cell_21 (by rw [hc21]; decide) (by rw [hc21]; decide) (by rw [hc21]; rfl) rfl ?_
              exact x_sub [1, 2] rfl (xb_X7_cell_162 hW hw)
            · replace hw := hw.2 hc21
              by_cases hc22 : (xh_I σ3 496 a0) = 6
              · replace hw := hw.1 hc22
                refine x_tableIn (off := 141) 162 dX7_cell_21 (by rw [hc22]; decide) (by rw [hc22]; decide) (by rw [hc22]; rfl) rfl ?_
                exact x_sub [1, 2] rfl (xb_X7_cell_162 hW hw)
              · replace hw := hw.2 hc22
                by_cases hc23 : (xh_I σ3 496 a0) = 7
                · replace hw := hw.1 hc23
                  refine x_tableIn (off := 131) 152 dX7_cell_21 (by rw [hc23]; decide) (by rw [hc23]; decide) (by rw [hc23]; rfl) rfl ?_
                  refine x_aload_n dX7_cell_152 rfl 1 rfl ?_
                  refine x_iload_n dX7_cell_153 rfl 2 rfl ?_
                  refine x_iconst dX7_cell_154 cI_2 ?_
                  refine x_iload_n dX7_cell_155 rfl 2 rfl ?_
                  refine x_callV (M2 := M_X7_answers) (As := [.int l1, .int 2, .int l1]) (st := []) (ci := 7) (Nat.le_of_ble_eq_true rfl) hW.1 rfl wM_X7_212 wI_X7_answers wS_X7_answers dX7_cell_156 rfl ok_X7_answers ⟨(Nat.le_of_ble_eq_true rfl), (Nat.le_of_ble_eq_true rfl)⟩ (Nat.le_of_ble_eq_true rfl) (ct_X7_answers hW hw) (xqV.k (fun σ24 hw2 => ?_))
                  obtain ⟨hW, hw⟩ := hw2
                  refine x_goto 168 dX7_cell_159 rfl ?_
                  exact x_sub [1] rfl (xb_X7_cell_168 hW hw)
                · replace hw := hw.2 hc23
                  refine x_tableOut 162 dX7_cell_21 (xsw_0_7 hc4 hc6 hc10 hc15 hc20 hc21 hc22 hc23) rfl ?_
                  exact x_sub [1, 2] rfl (xb_X7_cell_162 hW hw)
-- PromiseWireModel.moves(I)V
def wb_X7_moves_99 (Q : xS → Prop) (σ : xS) (a0 : Nat) : Prop := Q σ
set_option maxRecDepth 100000 in
set_option maxHeartbeats 4000000 in
theorem xb_X7_moves_99 {Q : xS → Prop} {σ : xS} {a0 : Nat}  (hW : xw7 σ a0)  (hw : wb_X7_moves_99 Q σ a0) : xX M_X7_moves 99 [(0, .ref a0)] [] σ (xqV (fun σ2 => xw7 σ2 a0 ∧ Q σ2)) := by
  unfold wb_X7_moves_99 at hw
  exact x_vret dX7_moves_99 rfl ⟨rfl, hW, hw⟩
def wp_X7_moves (σ : xS) (a0 : Nat) (l1 : Int32) (Q : xS → Prop) : Prop := vp_in (xh_I σ 495 a0) 100 ∧ (vp_in (xh_a σ (a0 + 19) (xh_I σ 495 a0).toNatClampNeg) 40 ∧ (((xh_a σ (a0 + 2) (xh_a σ (a0 + 19) (xh_I σ 495 a0).toNatClampNeg).toNatClampNeg) = 1 → vp_in l1 40 ∧ (((xh_I σ 497 a0) ≤ (xh_a σ (a0 + 3) l1.toNatClampNeg) → vp_in l1 40 ∧ (vp_in l1 40 ∧ ∀ σ8, σ8 = xs_a σ (a0 + 3) l1.toNatClampNeg ((xh_a σ (a0 + 3) l1.toNatClampNeg) - (xh_I σ 497 a0)) → (vp_in (xh_I σ8 495 a0) 100 ∧ ∀ σ10, σ10 = xs_a σ8 (a0 + 17) (xh_I σ8 495 a0).toNatClampNeg 2 → (vp_in (xh_I σ10 495 a0) 100 ∧ ∀ σ12, σ12 = xs_a σ10 (a0 + 20) (xh_I σ10 495 a0).toNatClampNeg l1 → (vp_in l1 40 ∧ (wp_X7_sendsToThing σ12 a0 (xh_I σ12 495 a0) (xh_a σ12 (a0 + 1) l1.toNatClampNeg) (xh_a σ (a0 + 19) (xh_I σ 495 a0).toNatClampNeg) (fun σ14 => wb_X7_moves_99 Q σ14 a0))))))) ∧ (¬ (xh_I σ 497 a0) ≤ (xh_a σ (a0 + 3) l1.toNatClampNeg) → wp_X7_breaks σ a0 l1 2 (fun σ15 => wb_X7_moves_99 Q σ15 a0)))) ∧ (¬ (xh_a σ (a0 + 2) (xh_a σ (a0 + 19) (xh_I σ 495 a0).toNatClampNeg).toNatClampNeg) = 1 → wp_X7_breaks σ a0 l1 3 (fun σ16 => wb_X7_moves_99 Q σ16 a0))))
set_option maxRecDepth 100000 in
set_option maxHeartbeats 4000000 in
theorem ct_X7_moves {σ : xS} {a0 : Nat}  {l1 : Int32} {Q : xS → Prop} (hW : xw7 σ a0) (hw : wp_X7_moves σ a0 l1 Q) : xCt M_X7_moves [.ref a0, .int l1] σ (xqV (fun σ2 => xw7 σ2 a0 ∧ Q σ2)) := by
  refine xCt_ofL (lv := [(0, .ref a0), (1, .int l1)]) pn_X7 (Nat.le_of_ble_eq_true rfl) rfl ?_
  unfold wp_X7_moves at hw
  refine x_aload_n dX7_moves_0 rfl 0 rfl ?_
  refine x_get (ci := 7) (k := 20) (v := .ref (a0 + 19)) dX7_moves_1 wF_X7_65 (Nat.le_of_ble_eq_true rfl) (Nat.le_of_ble_eq_true rfl) hW.1 (congrArg va_rf (w7r_19 hW)) ?_
  refine x_aload_n dX7_moves_4 rfl 0 rfl ?_
  refine x_get (ci := 7) (k := 47) (v := .int (xh_I σ 495 a0)) dX7_moves_5 wF_X7_209 (Nat.le_of_ble_eq_true rfl) (Nat.le_of_ble_eq_true rfl) hW.1 rfl ?_
  obtain ⟨hv1, hw⟩ := hw
  refine x_ialdZ dX7_moves_8 (w7k_19 hW) (w7z_19 hW) hv1 ?_
  refine x_istore_n [(2, .int (xh_a σ (a0 + 19) (xh_I σ 495 a0).toNatClampNeg)), (0, .ref a0), (1, .int l1)] dX7_moves_9 rfl (Nat.le_of_ble_eq_true rfl) rfl ?_
  refine x_aload_n dX7_moves_10 rfl 1 rfl ?_
  refine x_get (ci := 7) (k := 2) (v := .ref (a0 + 2)) dX7_moves_11 wF_X7_13 (Nat.le_of_ble_eq_true rfl) (Nat.le_of_ble_eq_true rfl) hW.1 (congrArg va_rf (w7r_2 hW)) ?_
  refine x_iload_n dX7_moves_14 rfl 0 rfl ?_
  obtain ⟨hv2, hw⟩ := hw
  refine x_ialdZ dX7_moves_15 (w7k_2 hW) (w7z_2 hW) hv2 ?_
  refine x_iconst dX7_moves_16 cI_1 ?_
  refine x_icmp_eq 29 dX7_moves_17 rfl (fun hc3 => ?_) (fun hc3 => ?_)
  · replace hw := hw.1 hc3
    refine x_aload_n dX7_moves_29 rfl 1 rfl ?_
    refine x_get (ci := 7) (k := 3) (v := .ref (a0 + 3)) dX7_moves_30 wF_X7_16 (Nat.le_of_ble_eq_true rfl) (Nat.le_of_ble_eq_true rfl) hW.1 (congrArg va_rf (w7r_3 hW)) ?_
    refine x_iload_n dX7_moves_33 rfl 2 rfl ?_
    obtain ⟨hv4, hw⟩ := hw
    refine x_ialdZ dX7_moves_34 (w7k_3 hW) (w7z_3 hW) hv4 ?_
    refine x_aload_n dX7_moves_35 rfl 1 rfl ?_
    refine x_get (ci := 7) (k := 49) (v := .int (xh_I σ 497 a0)) dX7_moves_36 wF_X7_222 (Nat.le_of_ble_eq_true rfl) (Nat.le_of_ble_eq_true rfl) hW.1 rfl ?_
    refine x_icmp_ge 51 dX7_moves_39 rfl (fun hc5 => ?_) (fun hc5 => ?_)
    · replace hw := hw.1 hc5
      refine x_aload_n dX7_moves_51 rfl 1 rfl ?_
      refine x_get (ci := 7) (k := 3) (v := .ref (a0 + 3)) dX7_moves_52 wF_X7_16 (Nat.le_of_ble_eq_true rfl) (Nat.le_of_ble_eq_true rfl) hW.1 (congrArg va_rf (w7r_3 hW)) ?_
      refine x_iload_n dX7_moves_55 rfl 2 rfl ?_
      refine x_dup2 dX7_moves_56 rfl rfl ?_
      obtain ⟨hv6, hw⟩ := hw
      refine x_ialdZ dX7_moves_57 (w7k_3 hW) (w7z_3 hW) hv6 ?_
      refine x_aload_n dX7_moves_58 rfl 1 rfl ?_
      refine x_get (ci := 7) (k := 49) (v := .int (xh_I σ 497 a0)) dX7_moves_59 wF_X7_222 (Nat.le_of_ble_eq_true rfl) (Nat.le_of_ble_eq_true rfl) hW.1 rfl ?_
      refine x_isub dX7_moves_62 ?_
      obtain ⟨hv7, hw⟩ := hw
      refine x_iastN dX7_moves_63 (w7k_3 hW) (w7z_3 hW) hv7 (fun σ8 hσ8 => ?_)
      replace hw := hw σ8 hσ8
      refine x_aload_n dX7_moves_64 rfl 1 rfl ?_
      have hW := (xw7_a hσ8 hW)
      refine x_get (ci := 7) (k := 18) (v := .ref (a0 + 17)) dX7_moves_65 wF_X7_59 (Nat.le_of_ble_eq_true rfl) (Nat.le_of_ble_eq_true rfl) hW.1 (congrArg va_rf (w7r_17 hW)) ?_
      refine x_aload_n dX7_moves_68 rfl 1 rfl ?_
      refine x_get (ci := 7) (k := 47) (v := .int (xh_I σ8 495 a0)) dX7_moves_69 wF_X7_209 (Nat.le_of_ble_eq_true rfl) (Nat.le_of_ble_eq_true rfl) hW.1 rfl ?_
      refine x_iconst dX7_moves_72 cI_2 ?_
      obtain ⟨hv9, hw⟩ := hw
      refine x_iastN dX7_moves_73 (w7k_17 hW) (w7z_17 hW) hv9 (fun σ10 hσ10 => ?_)
      replace hw := hw σ10 hσ10
      refine x_aload_n dX7_moves_74 rfl 1 rfl ?_
      have hW := (xw7_a hσ10 hW)
      refine x_get (ci := 7) (k := 21) (v := .ref (a0 + 20)) dX7_moves_75 wF_X7_68 (Nat.le_of_ble_eq_true rfl) (Nat.le_of_ble_eq_true rfl) hW.1 (congrArg va_rf (w7r_20 hW)) ?_
      refine x_aload_n dX7_moves_78 rfl 1 rfl ?_
      refine x_get (ci := 7) (k := 47) (v := .int (xh_I σ10 495 a0)) dX7_moves_79 wF_X7_209 (Nat.le_of_ble_eq_true rfl) (Nat.le_of_ble_eq_true rfl) hW.1 rfl ?_
      refine x_iload_n dX7_moves_82 rfl 2 rfl ?_
      obtain ⟨hv11, hw⟩ := hw
      refine x_iastN dX7_moves_83 (w7k_20 hW) (w7z_20 hW) hv11 (fun σ12 hσ12 => ?_)
      replace hw := hw σ12 hσ12
      refine x_aload_n dX7_moves_84 rfl 1 rfl ?_
      refine x_aload_n dX7_moves_85 rfl 1 rfl ?_
      have hW := (xw7_a hσ12 hW)
      refine x_get (ci := 7) (k := 47) (v := .int (xh_I σ12 495 a0)) dX7_moves_86 wF_X7_209 (Nat.le_of_ble_eq_true rfl) (Nat.le_of_ble_eq_true rfl) hW.1 rfl ?_
      refine x_aload_n dX7_moves_89 rfl 1 rfl ?_
      refine x_get (ci := 7) (k := 1) (v := .ref (a0 + 1)) dX7_moves_90 wF_X7_7 (Nat.le_of_ble_eq_true rfl) (Nat.le_of_ble_eq_true rfl) hW.1 (congrArg va_rf (w7r_1 hW)) ?_
      refine x_iload_n dX7_moves_93 rfl 2 rfl ?_
      obtain ⟨hv13, hw⟩ := hw
      refine x_ialdZ dX7_moves_94 (w7k_1 hW) (w7z_1 hW) hv13 ?_
      refine x_iload_n dX7_moves_95 rfl 0 rfl ?_
      refine x_callV (M2 := M_X7_sendsToThing) (As := [.int (xh_I σ12 495 a0), .int (xh_a σ12 (a0 + 1) l1.toNatClampNeg), .int (xh_a σ (a0 + 19) (xh_I σ 495 a0).toNatClampNeg)]) (st := []) (ci := 7) (Nat.le_of_ble_eq_true rfl) hW.1 rfl wM_X7_196 wI_X7_sendsToThing wS_X7_sendsToThing dX7_moves_96 rfl ok_X7_sendsToThing ⟨(Nat.le_of_ble_eq_true rfl), (Nat.le_of_ble_eq_true rfl)⟩ (Nat.le_of_ble_eq_true rfl) (ct_X7_sendsToThing hW hw) (xqV.k (fun σ14 hw2 => ?_))
      obtain ⟨hW, hw⟩ := hw2
      exact x_sub [1] rfl (xb_X7_moves_99 hW hw)
    · replace hw := hw.2 hc5
      refine x_aload_n dX7_moves_42 rfl 1 rfl ?_
      refine x_iload_n dX7_moves_43 rfl 2 rfl ?_
      refine x_iconst dX7_moves_44 cI_2 ?_
      refine x_callV (M2 := M_X7_breaks) (As := [.int l1, .int 2]) (st := []) (ci := 7) (Nat.le_of_ble_eq_true rfl) hW.1 rfl wM_X7_225 wI_X7_breaks wS_X7_breaks dX7_moves_45 rfl ok_X7_breaks ⟨(Nat.le_of_ble_eq_true rfl), (Nat.le_of_ble_eq_true rfl)⟩ (Nat.le_of_ble_eq_true rfl) (ct_X7_breaks hW hw) (xqV.k (fun σ15 hw2 => ?_))
      obtain ⟨hW, hw⟩ := hw2
      refine x_goto 99 dX7_moves_48 rfl ?_
      exact x_sub [1] rfl (xb_X7_moves_99 hW hw)
  · replace hw := hw.2 hc3
    refine x_aload_n dX7_moves_20 rfl 1 rfl ?_
    refine x_iload_n dX7_moves_21 rfl 2 rfl ?_
    refine x_iconst dX7_moves_22 cI_3 ?_
    refine x_callV (M2 := M_X7_breaks) (As := [.int l1, .int 3]) (st := []) (ci := 7) (Nat.le_of_ble_eq_true rfl) hW.1 rfl wM_X7_225 wI_X7_breaks wS_X7_breaks dX7_moves_23 rfl ok_X7_breaks ⟨(Nat.le_of_ble_eq_true rfl), (Nat.le_of_ble_eq_true rfl)⟩ (Nat.le_of_ble_eq_true rfl) (ct_X7_breaks hW hw) (xqV.k (fun σ16 hw2 => ?_))
    obtain ⟨hW, hw⟩ := hw2
    refine x_goto 99 dX7_moves_26 rfl ?_
    exact x_sub [1] rfl (xb_X7_moves_99 hW hw)
-- PromiseWireModel.purse(I)V
def wb_X7_purse_121 (Q : xS → Prop) (σ : xS) (a0 : Nat) : Prop := Q σ
set_option maxRecDepth 100000 in
set_option maxHeartbeats 4000000 in
theorem xb_X7_purse_121 {Q : xS → Prop} {σ : xS} {a0 : Nat}  (hW : xw7 σ a0)  (hw : wb_X7_purse_121 Q σ a0) : xX M_X7_purse 121 [(0, .ref a0)] [] σ (xqV (fun σ2 => xw7 σ2 a0 ∧ Q σ2)) := by
  unfold wb_X7_purse_121 at hw
  exact x_vret dX7_purse_121 rfl ⟨rfl, hW, hw⟩
def wb_X7_purse_100 (Q : xS → Prop) (σ : xS) (a0 : Nat) (l1 : Int32) : Prop := ((xh_I σ 496 a0) = 4 → wp_X7_moves σ a0 l1 (fun σ3 => wb_X7_purse_121 Q σ3 a0)) ∧ (¬ (xh_I σ 496 a0) = 4 → wp_X7_cell σ a0 l1 (fun σ2 => wb_X7_purse_121 Q σ2 a0))
set_option maxRecDepth 100000 in
set_option maxHeartbeats 4000000 in
theorem xb_X7_purse_100 {Q : xS → Prop} {σ : xS} {a0 : Nat}  {l1 : Int32} (hW : xw7 σ a0)  (hw : wb_X7_purse_100 Q σ a0 l1) : xX M_X7_purse 100 [(0, .ref a0), (1, .int l1)] [] σ (xqV (fun σ2 => xw7 σ2 a0 ∧ Q σ2)) := by
  unfold wb_X7_purse_100 at hw
  refine x_aload_n dX7_purse_100 rfl 0 rfl ?_
  refine x_get (ci := 7) (k := 48) (v := .int (xh_I σ 496 a0)) dX7_purse_101 wF_X7_219 (Nat.le_of_ble_eq_true rfl) (Nat.le_of_ble_eq_true rfl) hW.1 rfl ?_
  refine x_iconst dX7_purse_104 cI_4 ?_
  refine x_icmp_ne 116 dX7_purse_105 rfl (fun hc1 => ?_) (fun hc1 => ?_)
  · replace hw := hw.2 hc1
    refine x_aload_n dX7_purse_116 rfl 0 rfl ?_
    refine x_iload_n dX7_purse_117 rfl 1 rfl ?_
    refine x_callV (M2 := M_X7_cell) (As := [.int l1]) (st := []) (ci := 7) (Nat.le_of_ble_eq_true rfl) hW.1 rfl wM_X7_234 wI_X7_cell wS_X7_cell dX7_purse_118 rfl ok_X7_cell ⟨(Nat.le_of_ble_eq_true rfl), (Nat.le_of_ble_eq_true rfl)⟩ (Nat.le_of_ble_eq_true rfl) (ct_X7_cell hW hw) (xqV.k (fun σ2 hw2 => ?_))
    obtain ⟨hW, hw⟩ := hw2
    exact x_sub [0] rfl (xb_X7_purse_121 hW hw)
  · replace hw := hw.1 hc1
    refine x_aload_n dX7_purse_108 rfl 0 rfl ?_
    refine x_iload_n dX7_purse_109 rfl 1 rfl ?_
    refine x_callV (M2 := M_X7_moves) (As := [.int l1]) (st := []) (ci := 7) (Nat.le_of_ble_eq_true rfl) hW.1 rfl wM_X7_230 wI_X7_moves wS_X7_moves dX7_purse_110 rfl ok_X7_moves ⟨(Nat.le_of_ble_eq_true rfl), (Nat.le_of_ble_eq_true rfl)⟩ (Nat.le_of_ble_eq_true rfl) (ct_X7_moves hW hw) (xqV.k (fun σ3 hw2 => ?_))
    obtain ⟨hW, hw⟩ := hw2
    refine x_goto 121 dX7_purse_113 rfl ?_
    exact x_sub [0] rfl (xb_X7_purse_121 hW hw)
def wb_X7_purse_70 (Q : xS → Prop) (σ : xS) (a0 : Nat) (l1 : Int32) : Prop := ((xh_I σ 496 a0) = 3 → vp_in l1 40 ∧ (((xh_I σ 497 a0) ≤ (xh_a σ (a0 + 3) l1.toNatClampNeg) → wb_X7_purse_100 Q σ a0 l1) ∧ (¬ (xh_I σ 497 a0) ≤ (xh_a σ (a0 + 3) l1.toNatClampNeg) → wp_X7_breaks σ a0 l1 2 (fun σ7 => wb_X7_purse_121 Q σ7 a0)))) ∧ (¬ (xh_I σ 496 a0) = 3 → wb_X7_purse_100 Q σ a0 l1)
set_option maxRecDepth 100000 in
set_option maxHeartbeats 4000000 in
theorem xb_X7_purse_70 {Q : xS → Prop} {σ : xS} {a0 : Nat}  {l1 : Int32} (hW : xw7 σ a0)  (hw : wb_X7_purse_70 Q σ a0 l1) : xX M_X7_purse 70 [(0, .ref a0), (1, .int l1)] [] σ (xqV (fun σ2 => xw7 σ2 a0 ∧ Q σ2)) := by
  unfold wb_X7_purse_70 at hw
  refine x_aload_n dX7_purse_70 rfl 0 rfl ?_
  refine x_get (ci := 7) (k := 48) (v := .int (xh_I σ 496 a0)) dX7_purse_71 wF_X7_219 (Nat.le_of_ble_eq_true rfl) (Nat.le_of_ble_eq_true rfl) hW.1 rfl ?_
  refine x_iconst dX7_purse_74 cI_3 ?_
  refine x_icmp_ne 100 dX7_purse_75 rfl (fun hc4 => ?_) (fun hc4 => ?_)
  · replace hw := hw.2 hc4
    exact x_sub [0, 1] rfl (xb_X7_purse_100 hW hw)
  · replace hw := hw.1 hc4
    refine x_aload_n dX7_purse_78 rfl 0 rfl ?_
    refine x_get (ci := 7) (k := 3) (v := .ref (a0 + 3)) dX7_purse_79 wF_X7_16 (Nat.le_of_ble_eq_true rfl) (Nat.le_of_ble_eq_true rfl) hW.1 (congrArg va_rf (w7r_3 hW)) ?_
    refine x_iload_n dX7_purse_82 rfl 1 rfl ?_
    obtain ⟨hv5, hw⟩ := hw
    refine x_ialdZ dX7_purse_83 (w7k_3 hW) (w7z_3 hW) hv5 ?_
    refine x_aload_n dX7_purse_84 rfl 0 rfl ?_
    refine x_get (ci := 7) (k := 49) (v := .int (xh_I σ 497 a0)) dX7_purse_85 wF_X7_222 (Nat.le_of_ble_eq_true rfl) (Nat.le_of_ble_eq_true rfl) hW.1 rfl ?_
    refine x_icmp_ge 100 dX7_purse_88 rfl (fun hc6 => ?_) (fun hc6 => ?_)
    · replace hw := hw.1 hc6
      exact x_sub [0, 1] rfl (xb_X7_purse_100 hW hw)
    · replace hw := hw.2 hc6
      refine x_aload_n dX7_purse_91 rfl 0 rfl ?_
      refine x_iload_n dX7_purse_92 rfl 1 rfl ?_
      refine x_iconst dX7_purse_93 cI_2 ?_
      refine x_callV (M2 := M_X7_breaks) (As := [.int l1, .int 2]) (st := []) (ci := 7) (Nat.le_of_ble_eq_true rfl) hW.1 rfl wM_X7_225 wI_X7_breaks wS_X7_breaks dX7_purse_94 rfl ok_X7_breaks ⟨(Nat.le_of_ble_eq_true rfl), (Nat.le_of_ble_eq_true rfl)⟩ (Nat.le_of_ble_eq_true rfl) (ct_X7_breaks hW hw) (xqV.k (fun σ7 hw2 => ?_))
      obtain ⟨hW, hw⟩ := hw2
      refine x_goto 121 dX7_purse_97 rfl ?_
      exact x_sub [0] rfl (xb_X7_purse_121 hW hw)
def wb_X7_purse_61 (Q : xS → Prop) (σ : xS) (a0 : Nat) (l1 : Int32) : Prop := wp_X7_breaks σ a0 l1 3 (fun σ8 => wb_X7_purse_121 Q σ8 a0)
set_option maxRecDepth 100000 in
set_option maxHeartbeats 4000000 in
theorem xb_X7_purse_61 {Q : xS → Prop} {σ : xS} {a0 : Nat}  {l1 : Int32} (hW : xw7 σ a0)  (hw : wb_X7_purse_61 Q σ a0 l1) : xX M_X7_purse 61 [(0, .ref a0), (1, .int l1)] [] σ (xqV (fun σ2 => xw7 σ2 a0 ∧ Q σ2)) := by
  unfold wb_X7_purse_61 at hw
  refine x_aload_n dX7_purse_61 rfl 0 rfl ?_
  refine x_iload_n dX7_purse_62 rfl 1 rfl ?_
  refine x_iconst dX7_purse_63 cI_3 ?_
  refine x_callV (M2 := M_X7_breaks) (As := [.int l1, .int 3]) (st := []) (ci := 7) (Nat.le_of_ble_eq_true rfl) hW.1 rfl wM_X7_225 wI_X7_breaks wS_X7_breaks dX7_purse_64 rfl ok_X7_breaks ⟨(Nat.le_of_ble_eq_true rfl), (Nat.le_of_ble_eq_true rfl)⟩ (Nat.le_of_ble_eq_true rfl) (ct_X7_breaks hW hw) (xqV.k (fun σ8 hw2 => ?_))
  obtain ⟨hW, hw⟩ := hw2
  refine x_goto 121 dX7_purse_67 rfl ?_
  exact x_sub [0] rfl (xb_X7_purse_121 hW hw)
def wb_X7_purse_41 (Q : xS → Prop) (σ : xS) (a0 : Nat) (l1 : Int32) (s0 : Int32) : Prop := ((xh_I σ 496 a0) = 1 → wb_X7_purse_61 Q σ a0 l1) ∧ (¬ (xh_I σ 496 a0) = 1 → (s0 = 0 → wb_X7_purse_70 Q σ a0 l1) ∧ (¬ s0 = 0 → (0 ≤ (xh_I σ 497 a0) → wb_X7_purse_70 Q σ a0 l1) ∧ (¬ 0 ≤ (xh_I σ 497 a0) → wb_X7_purse_61 Q σ a0 l1)))
set_option maxRecDepth 100000 in
set_option maxHeartbeats 4000000 in
theorem xb_X7_purse_41 {Q : xS → Prop} {σ : xS} {a0 : Nat}  {l1 : Int32} {s0 : Int32} (hW : xw7 σ a0)  (hw : wb_X7_purse_41 Q σ a0 l1 s0) : xX M_X7_purse 41 [(0, .ref a0), (1, .int l1)] [.int s0] σ (xqV (fun σ2 => xw7 σ2 a0 ∧ Q σ2)) := by
  unfold wb_X7_purse_41 at hw
  refine x_istore_n [(2, .int s0), (0, .ref a0), (1, .int l1)] dX7_purse_41 rfl (Nat.le_of_ble_eq_true rfl) rfl ?_
  refine x_aload_n dX7_purse_42 rfl 1 rfl ?_
  refine x_get (ci := 7) (k := 48) (v := .int (xh_I σ 496 a0)) dX7_purse_43 wF_X7_219 (Nat.le_of_ble_eq_true rfl) (Nat.le_of_ble_eq_true rfl) hW.1 rfl ?_
  refine x_iconst dX7_purse_46 cI_1 ?_
  refine x_icmp_eq 61 dX7_purse_47 rfl (fun hc9 => ?_) (fun hc9 => ?_)
  · replace hw := hw.1 hc9
    exact x_sub [1, 2] rfl (xb_X7_purse_61 hW hw)
  · replace hw := hw.2 hc9
    refine x_iload_n dX7_purse_50 rfl 0 rfl ?_
    refine x_if_eq 70 dX7_purse_51 rfl (fun hc10 => ?_) (fun hc10 => ?_)
    · replace hw := hw.1 hc10
      exact x_sub [1, 2] rfl (xb_X7_purse_70 hW hw)
    · replace hw := hw.2 hc10
      refine x_aload_n dX7_purse_54 rfl 1 rfl ?_
      refine x_get (ci := 7) (k := 49) (v := .int (xh_I σ 497 a0)) dX7_purse_55 wF_X7_222 (Nat.le_of_ble_eq_true rfl) (Nat.le_of_ble_eq_true rfl) hW.1 rfl ?_
      refine x_if_ge 70 dX7_purse_58 rfl (fun hc11 => ?_) (fun hc11 => ?_)
      · replace hw := hw.1 hc11
        exact x_sub [1, 2] rfl (xb_X7_purse_70 hW hw)
      · replace hw := hw.2 hc11
        exact x_sub [1, 2] rfl (xb_X7_purse_61 hW hw)
def wb_X7_purse_36 (Q : xS → Prop) (σ : xS) (a0 : Nat) (l1 : Int32) : Prop := wb_X7_purse_41 Q σ a0 l1 1
set_option maxRecDepth 100000 in
set_option maxHeartbeats 4000000 in
theorem xb_X7_purse_36 {Q : xS → Prop} {σ : xS} {a0 : Nat}  {l1 : Int32} (hW : xw7 σ a0)  (hw : wb_X7_purse_36 Q σ a0 l1) : xX M_X7_purse 36 [(0, .ref a0), (1, .int l1)] [] σ (xqV (fun σ2 => xw7 σ2 a0 ∧ Q σ2)) := by
  unfold wb_X7_purse_36 at hw
  refine x_iconst dX7_purse_36 cI_1 ?_
  refine x_goto 41 dX7_purse_37 rfl ?_
  exact x_sub [0, 1] rfl (xb_X7_purse_41 hW hw)
def wp_X7_purse (σ : xS) (a0 : Nat) (l1 : Int32) (Q : xS → Prop) : Prop := ∀ σ12, σ12 = xs_L σ 494 a0 ((xh_L σ 494 a0) + 10) → (((xh_I σ12 496 a0) = 2 → wb_X7_purse_36 Q σ12 a0 l1) ∧ (¬ (xh_I σ12 496 a0) = 2 → ((xh_I σ12 496 a0) = 3 → wb_X7_purse_36 Q σ12 a0 l1) ∧ (¬ (xh_I σ12 496 a0) = 3 → ((xh_I σ12 496 a0) = 4 → wb_X7_purse_36 Q σ12 a0 l1) ∧ (¬ (xh_I σ12 496 a0) = 4 → wb_X7_purse_41 Q σ12 a0 l1 0))))
set_option maxRecDepth 100000 in
set_option maxHeartbeats 4000000 in
theorem ct_X7_purse {σ : xS} {a0 : Nat}  {l1 : Int32} {Q : xS → Prop} (hW : xw7 σ a0) (hw : wp_X7_purse σ a0 l1 Q) : xCt M_X7_purse [.ref a0, .int l1] σ (xqV (fun σ2 => xw7 σ2 a0 ∧ Q σ2)) := by
  refine xCt_ofL (lv := [(0, .ref a0), (1, .int l1)]) pn_X7 (Nat.le_of_ble_eq_true rfl) rfl ?_
  unfold wp_X7_purse at hw
  refine x_aload_n dX7_purse_0 rfl 0 rfl ?_
  refine x_dup dX7_purse_1 rfl ?_
  refine x_get (ci := 7) (k := 46) (v := .long (xh_L σ 494 a0)) dX7_purse_2 wF_X7_215 (Nat.le_of_ble_eq_true rfl) (Nat.le_of_ble_eq_true rfl) hW.1 rfl ?_
  refine x_ldc2 dX7_purse_5 wL_X7_228 ?_
  refine x_ladd dX7_purse_8 ?_
  refine x_putLN (ci := 7) (k := 46) (f := 494) dX7_purse_9 wF_X7_215 (Nat.le_of_ble_eq_true rfl) (Nat.le_of_ble_eq_true rfl) hW.1 (Or.inl rfl) rfl rfl (fun σ12 hσ12 => ?_)
  replace hw := hw σ12 hσ12
  refine x_aload_n dX7_purse_12 rfl 0 rfl ?_
  have hW := (xw7_L hσ12 hW)
  refine x_get (ci := 7) (k := 48) (v := .int (xh_I σ12 496 a0)) dX7_purse_13 wF_X7_219 (Nat.le_of_ble_eq_true rfl) (Nat.le_of_ble_eq_true rfl) hW.1 rfl ?_
  refine x_iconst dX7_purse_16 cI_2 ?_
  refine x_icmp_eq 36 dX7_purse_17 rfl (fun hc13 => ?_) (fun hc13 => ?_)
  · replace hw := hw.1 hc13
    exact x_sub [0, 1] rfl (xb_X7_purse_36 hW hw)
  · replace hw := hw.2 hc13
    refine x_aload_n dX7_purse_20 rfl 0 rfl ?_
    refine x_get (ci := 7) (k := 48) (v := .int (xh_I σ12 496 a0)) dX7_purse_21 wF_X7_219 (Nat.le_of_ble_eq_true rfl) (Nat.le_of_ble_eq_true rfl) hW.1 rfl ?_
    refine x_iconst dX7_purse_24 cI_3 ?_
    refine x_icmp_eq 36 dX7_purse_25 rfl (fun hc14 => ?_) (fun hc14 => ?_)
    · replace hw := hw.1 hc14
      exact x_sub [0, 1] rfl (xb_X7_purse_36 hW hw)
    · replace hw := hw.2 hc14
      refine x_aload_n dX7_purse_28 rfl 0 rfl ?_
      refine x_get (ci := 7) (k := 48) (v := .int (xh_I σ12 496 a0)) dX7_purse_29 wF_X7_219 (Nat.le_of_ble_eq_true rfl) (Nat.le_of_ble_eq_true rfl) hW.1 rfl ?_
      refine x_iconst dX7_purse_32 cI_4 ?_
      refine x_icmp_ne 40 dX7_purse_33 rfl (fun hc15 => ?_) (fun hc15 => ?_)
      · replace hw := hw.2 hc15
        refine x_iconst dX7_purse_40 cI_0 ?_
        exact x_sub [0, 1] rfl (xb_X7_purse_41 hW hw)
      · replace hw := hw.1 hc15
        exact x_sub [0, 1] rfl (xb_X7_purse_36 hW hw)
-- PromiseWireModel.maker(I)V
def wb_X7_maker_134 (Q : xS → Prop) (σ : xS) (a0 : Nat) : Prop := Q σ
set_option maxRecDepth 100000 in
set_option maxHeartbeats 4000000 in
theorem xb_X7_maker_134 {Q : xS → Prop} {σ : xS} {a0 : Nat}  (hW : xw7 σ a0)  (hw : wb_X7_maker_134 Q σ a0) : xX M_X7_maker 134 [(0, .ref a0)] [] σ (xqV (fun σ2 => xw7 σ2 a0 ∧ Q σ2)) := by
  unfold wb_X7_maker_134 at hw
  exact x_vret dX7_maker_134 rfl ⟨rfl, hW, hw⟩
def wb_X7_maker_73 (Q : xS → Prop) (σ : xS) (a0 : Nat) (l1 : Int32) : Prop := wp_X7_breaks σ a0 l1 3 (fun σ1 => wb_X7_maker_134 Q σ1 a0)
set_option maxRecDepth 100000 in
set_option maxHeartbeats 4000000 in
theorem xb_X7_maker_73 {Q : xS → Prop} {σ : xS} {a0 : Nat}  {l1 : Int32} (hW : xw7 σ a0)  (hw : wb_X7_maker_73 Q σ a0 l1) : xX M_X7_maker 73 [(0, .ref a0), (1, .int l1)] [] σ (xqV (fun σ2 => xw7 σ2 a0 ∧ Q σ2)) := by
  unfold wb_X7_maker_73 at hw
  refine x_aload_n dX7_maker_73 rfl 0 rfl ?_
  refine x_iload_n dX7_maker_74 rfl 1 rfl ?_
  refine x_iconst dX7_maker_75 cI_3 ?_
  refine x_callV (M2 := M_X7_breaks) (As := [.int l1, .int 3]) (st := []) (ci := 7) (Nat.le_of_ble_eq_true rfl) hW.1 rfl wM_X7_225 wI_X7_breaks wS_X7_breaks dX7_maker_76 rfl ok_X7_breaks ⟨(Nat.le_of_ble_eq_true rfl), (Nat.le_of_ble_eq_true rfl)⟩ (Nat.le_of_ble_eq_true rfl) (ct_X7_breaks hW hw) (xqV.k (fun σ1 hw2 => ?_))
  obtain ⟨hW, hw⟩ := hw2
  refine x_goto 134 dX7_maker_79 rfl ?_
  exact x_sub [0] rfl (xb_X7_maker_134 hW hw)
def wp_X7_maker (σ : xS) (a0 : Nat) (l1 : Int32) (Q : xS → Prop) : Prop := ∀ σ2, σ2 = xs_L σ 494 a0 ((xh_L σ 494 a0) + 100) → (((xh_I σ2 496 a0) = 0 → vp_in l1 40 ∧ (wp_X7_answers σ2 a0 l1 1 (xh_a σ2 (a0 + 3) l1.toNatClampNeg) (fun σ20 => wb_X7_maker_134 Q σ20 a0))) ∧ (¬ (xh_I σ2 496 a0) = 0 → ((xh_I σ2 496 a0) = 7 → wp_X7_answers σ2 a0 l1 2 l1 (fun σ18 => wb_X7_maker_134 Q σ18 a0)) ∧ (¬ (xh_I σ2 496 a0) = 7 → ((xh_I σ2 496 a0) = 5 → wp_X7_in σ2 (xh_I σ2 497 a0) 0 2 (fun x6 => (x6 = 0 → wb_X7_maker_73 Q σ2 a0 l1) ∧ (¬ x6 = 0 → ((xh_I σ2 448 a0) = 40 → wp_X7_breaks σ2 a0 l1 5 (fun σ17 => wb_X7_maker_134 Q σ17 a0)) ∧ (¬ (xh_I σ2 448 a0) = 40 → vp_in l1 40 ∧ (vp_in l1 40 ∧ ∀ σ12, σ12 = xs_a σ2 (a0 + 3) l1.toNatClampNeg ((xh_a σ2 (a0 + 3) l1.toNatClampNeg) + 1) → (vp_in l1 40 ∧ (wp_X7_comes σ12 a0 (xh_a σ12 (a0 + 1) l1.toNatClampNeg) (xh_I σ12 497 a0) 0 (-9) 0 (fun x14 σ15 => wp_X7_answers σ15 a0 l1 2 x14 (fun σ16 => wb_X7_maker_134 Q σ16 a0))))))))) ∧ (¬ (xh_I σ2 496 a0) = 5 → wb_X7_maker_73 Q σ2 a0 l1))))
set_option maxRecDepth 100000 in
set_option maxHeartbeats 4000000 in
theorem ct_X7_maker {σ : xS} {a0 : Nat}  {l1 : Int32} {Q : xS → Prop} (hW : xw7 σ a0) (hw : wp_X7_maker σ a0 l1 Q) : xCt M_X7_maker [.ref a0, .int l1] σ (xqV (fun σ2 => xw7 σ2 a0 ∧ Q σ2)) := by
  refine xCt_ofL (lv := [(0, .ref a0), (1, .int l1)]) pn_X7 (Nat.le_of_ble_eq_true rfl) rfl ?_
  unfold wp_X7_maker at hw
  refine x_aload_n dX7_maker_0 rfl 0 rfl ?_
  refine x_dup dX7_maker_1 rfl ?_
  refine x_get (ci := 7) (k := 46) (v := .long (xh_L σ 494 a0)) dX7_maker_2 wF_X7_215 (Nat.le_of_ble_eq_true rfl) (Nat.le_of_ble_eq_true rfl) hW.1 rfl ?_
  refine x_ldc2 dX7_maker_5 wL_X7_237 ?_
  refine x_ladd dX7_maker_8 ?_
  refine x_putLN (ci := 7) (k := 46) (f := 494) dX7_maker_9 wF_X7_215 (Nat.le_of_ble_eq_true rfl) (Nat.le_of_ble_eq_true rfl) hW.1 (Or.inl rfl) rfl rfl (fun σ2 hσ2 => ?_)
  replace hw := hw σ2 hσ2
  refine x_aload_n dX7_maker_12 rfl 0 rfl ?_
  have hW := (xw7_L hσ2 hW)
  refine x_get (ci := 7) (k := 48) (v := .int (xh_I σ2 496 a0)) dX7_maker_13 wF_X7_219 (Nat.le_of_ble_eq_true rfl) (Nat.le_of_ble_eq_true rfl) hW.1 rfl ?_
  refine x_if_ne 34 dX7_maker_16 rfl (fun hc3 => ?_) (fun hc3 => ?_)
  · replace hw := hw.2 hc3
    refine x_aload_n dX7_maker_34 rfl 0 rfl ?_
    refine x_get (ci := 7) (k := 48) (v := .int (xh_I σ2 496 a0)) dX7_maker_35 wF_X7_219 (Nat.le_of_ble_eq_true rfl) (Nat.le_of_ble_eq_true rfl) hW.1 rfl ?_
    refine x_bipush dX7_maker_38 cB_7 ?_
    refine x_icmp_ne 53 dX7_maker_40 rfl (fun hc4 => ?_) (fun hc4 => ?_)
    · replace hw := hw.2 hc4
      refine x_aload_n dX7_maker_53 rfl 0 rfl ?_
      refine x_get (ci := 7) (k := 48) (v := .int (xh_I σ2 496 a0)) dX7_maker_54 wF_X7_219 (Nat.le_of_ble_eq_true rfl) (Nat.le_of_ble_eq_true rfl) hW.1 rfl ?_
      refine x_iconst dX7_maker_57 cI_5 ?_
      refine x_icmp_ne 73 dX7_maker_58 rfl (fun hc5 => ?_) (fun hc5 => ?_)
      · replace hw := hw.2 hc5
        exact x_sub [0, 1] rfl (xb_X7_maker_73 hW hw)
      · replace hw := hw.1 hc5
        refine x_aload_n dX7_maker_61 rfl 0 rfl ?_
        refine x_get (ci := 7) (k := 49) (v := .int (xh_I σ2 497 a0)) dX7_maker_62 wF_X7_222 (Nat.le_of_ble_eq_true rfl) (Nat.le_of_ble_eq_true rfl) hW.1 rfl ?_
        refine x_iconst dX7_maker_65 cI_0 ?_
        refine x_iconst dX7_maker_66 cI_2 ?_
        refine x_callS (M2 := M_X7_in) (As := [.int (xh_I σ2 497 a0), .int 0, .int 2]) (st := []) wM_X7_132 wZ_X7_in dX7_maker_67 rfl ok_X7_in ⟨(Nat.le_of_ble_eq_true rfl), (Nat.le_of_ble_eq_true rfl)⟩ (Nat.le_of_ble_eq_true rfl) (ct_X7_in hw) (xqI.k (fun x6 τ7 hw2 => ?_))
        obtain ⟨he, hw⟩ := hw2
        subst he
        refine x_if_ne 82 dX7_maker_70 rfl (fun hc8 => ?_) (fun hc8 => ?_)
        · replace hw := hw.2 hc8
          refine x_aload_n dX7_maker_82 rfl 0 rfl ?_
          refine x_get (ci := 7) (k := 0) (v := .int (xh_I σ2 448 a0)) dX7_maker_83 wF_X7_128 (Nat.le_of_ble_eq_true rfl) (Nat.le_of_ble_eq_true rfl) hW.1 rfl ?_
          refine x_bipush dX7_maker_86 cB_40 ?_
          refine x_icmp_ne 100 dX7_maker_88 rfl (fun hc9 => ?_) (fun hc9 => ?_)
          · replace hw := hw.2 hc9
            refine x_aload_n dX7_maker_100 rfl 0 rfl ?_
            refine x_get (ci := 7) (k := 3) (v := .ref (a0 + 3)) dX7_maker_101 wF_X7_16 (Nat.le_of_ble_eq_true rfl) (Nat.le_of_ble_eq_true rfl) hW.1 (congrArg va_rf (w7r_3 hW)) ?_
            refine x_iload_n dX7_maker_104 rfl 1 rfl ?_
            refine x_dup2 dX7_maker_105 rfl rfl ?_
            obtain ⟨hv10, hw⟩ := hw
            refine x_ialdZ dX7_maker_106 (w7k_3 hW) (w7z_3 hW) hv10 ?_
            refine x_iconst dX7_maker_107 cI_1 ?_
            refine x_iadd dX7_maker_108 ?_
            obtain ⟨hv11, hw⟩ := hw
            refine x_iastN dX7_maker_109 (w7k_3 hW) (w7z_3 hW) hv11 (fun σ12 hσ12 => ?_)
            replace hw := hw σ12 hσ12
            refine x_aload_n dX7_maker_110 rfl 0 rfl ?_
            refine x_iload_n dX7_maker_111 rfl 1 rfl ?_
            refine x_iconst dX7_maker_112 cI_2 ?_
            refine x_aload_n dX7_maker_113 rfl 0 rfl ?_
            refine x_aload_n dX7_maker_114 rfl 0 rfl ?_
            have hW := (xw7_a hσ12 hW)
            refine x_get (ci := 7) (k := 1) (v := .ref (a0 + 1)) dX7_maker_115 wF_X7_7 (Nat.le_of_ble_eq_true rfl) (Nat.le_of_ble_eq_true rfl) hW.1 (congrArg va_rf (w7r_1 hW)) ?_
            refine x_iload_n dX7_maker_118 rfl 1 rfl ?_
            obtain ⟨hv13, hw⟩ := hw
            refine x_ialdZ dX7_maker_119 (w7k_1 hW) (w7z_1 hW) hv13 ?_
            refine x_aload_n dX7_maker_120 rfl 0 rfl ?_
            refine x_get (ci := 7) (k := 49) (v := .int (xh_I σ12 497 a0)) dX7_maker_121 wF_X7_222 (Nat.le_of_ble_eq_true rfl) (Nat.le_of_ble_eq_true rfl) hW.1 rfl ?_
            refine x_iconst dX7_maker_124 cI_0 ?_
            refine x_bipush dX7_maker_125 cB_m9 ?_
            refine x_iconst dX7_maker_127 cI_0 ?_
            refine x_callV (M2 := M_X7_comes) (As := [.int (xh_a σ12 (a0 + 1) l1.toNatClampNeg), .int (xh_I σ12 497 a0), .int 0, .int (-9), .int 0]) (st := [.int 2, .int l1, .ref a0]) (ci := 7) (Nat.le_of_ble_eq_true rfl) hW.1 rfl wM_X7_139 wI_X7_comes wS_X7_comes dX7_maker_128 rfl ok_X7_comes ⟨(Nat.le_of_ble_eq_true rfl), (Nat.le_of_ble_eq_true rfl)⟩ (Nat.le_of_ble_eq_true rfl) (ct_X7_comes hW hw) (xqI.k (fun x14 σ15 hw2 => ?_))
            obtain ⟨hW, hw⟩ := hw2
            refine x_callV (M2 := M_X7_answers) (As := [.int l1, .int 2, .int x14]) (st := []) (ci := 7) (Nat.le_of_ble_eq_true rfl) hW.1 rfl wM_X7_212 wI_X7_answers wS_X7_answers dX7_maker_131 rfl ok_X7_answers ⟨(Nat.le_of_ble_eq_true rfl), (Nat.le_of_ble_eq_true rfl)⟩ (Nat.le_of_ble_eq_true rfl) (ct_X7_answers hW hw) (xqV.k (fun σ16 hw2 => ?_))
            obtain ⟨hW, hw⟩ := hw2
            exact x_sub [0] rfl (xb_X7_maker_134 hW hw)
          · replace hw := hw.1 hc9
            refine x_aload_n dX7_maker_91 rfl 0 rfl ?_
            refine x_iload_n dX7_maker_92 rfl 1 rfl ?_
            refine x_iconst dX7_maker_93 cI_5 ?_
            refine x_callV (M2 := M_X7_breaks) (As := [.int l1, .int 5]) (st := []) (ci := 7) (Nat.le_of_ble_eq_true rfl) hW.1 rfl wM_X7_225 wI_X7_breaks wS_X7_breaks dX7_maker_94 rfl ok_X7_breaks ⟨(Nat.le_of_ble_eq_true rfl), (Nat.le_of_ble_eq_true rfl)⟩ (Nat.le_of_ble_eq_true rfl) (ct_X7_breaks hW hw) (xqV.k (fun σ17 hw2 => ?_))
            obtain ⟨hW, hw⟩ := hw2
            refine x_goto 134 dX7_maker_97 rfl ?_
            exact x_sub [0] rfl (xb_X7_maker_134 hW hw)
        · replace hw := hw.1 hc8
          exact x_sub [0, 1] rfl (xb_X7_maker_73 hW hw)
    · replace hw := hw.1 hc4
      refine x_aload_n dX7_maker_43 rfl 0 rfl ?_
      refine x_iload_n dX7_maker_44 rfl 1 rfl ?_
      refine x_iconst dX7_maker_45 cI_2 ?_
      refine x_iload_n dX7_maker_46 rfl 1 rfl ?_
      refine x_callV (M2 := M_X7_answers) (As := [.int l1, .int 2, .int l1]) (st := []) (ci := 7) (Nat.le_of_ble_eq_true rfl) hW.1 rfl wM_X7_212 wI_X7_answers wS_X7_answers dX7_maker_47 rfl ok_X7_answers ⟨(Nat.le_of_ble_eq_true rfl), (Nat.le_of_ble_eq_true rfl)⟩ (Nat.le_of_ble_eq_true rfl) (ct_X7_answers hW hw) (xqV.k (fun σ18 hw2 => ?_))
      obtain ⟨hW, hw⟩ := hw2
      refine x_goto 134 dX7_maker_50 rfl ?_
      exact x_sub [0] rfl (xb_X7_maker_134 hW hw)
  · replace hw := hw.1 hc3
    refine x_aload_n dX7_maker_19 rfl 0 rfl ?_
    refine x_iload_n dX7_maker_20 rfl 1 rfl ?_
    refine x_iconst dX7_maker_21 cI_1 ?_
    refine x_aload_n dX7_maker_22 rfl 0 rfl ?_
    refine x_get (ci := 7) (k := 3) (v := .ref (a0 + 3)) dX7_maker_23 wF_X7_16 (Nat.le_of_ble_eq_true rfl) (Nat.le_of_ble_eq_true rfl) hW.1 (congrArg va_rf (w7r_3 hW)) ?_
    refine x_iload_n dX7_maker_26 rfl 1 rfl ?_
    obtain ⟨hv19, hw⟩ := hw
    refine x_ialdZ dX7_maker_27 (w7k_3 hW) (w7z_3 hW) hv19 ?_
    refine x_callV (M2 := M_X7_answers) (As := [.int l1, .int 1, .int (xh_a σ2 (a0 + 3) l1.toNatClampNeg)]) (st := []) (ci := 7) (Nat.le_of_ble_eq_true rfl) hW.1 rfl wM_X7_212 wI_X7_answers wS_X7_answers dX7_maker_28 rfl ok_X7_answers ⟨(Nat.le_of_ble_eq_true rfl), (Nat.le_of_ble_eq_true rfl)⟩ (Nat.le_of_ble_eq_true rfl) (ct_X7_answers hW hw) (xqV.k (fun σ20 hw2 => ?_))
    obtain ⟨hW, hw⟩ := hw2
    refine x_goto 134 dX7_maker_31 rfl ?_
    exact x_sub [0] rfl (xb_X7_maker_134 hW hw)
-- PromiseWireModel.guardHears(I)V
def wb_X7_guardHears_105 (Q : xS → Prop) (σ : xS) (a0 : Nat) : Prop := Q σ
set_option maxRecDepth 100000 in
set_option maxHeartbeats 4000000 in
theorem xb_X7_guardHears_105 {Q : xS → Prop} {σ : xS} {a0 : Nat}  (hW : xw7 σ a0)  (hw : wb_X7_guardHears_105 Q σ a0) : xX M_X7_guardHears 105 [(0, .ref a0)] [] σ (xqV (fun σ2 => xw7 σ2 a0 ∧ Q σ2)) := by
  unfold wb_X7_guardHears_105 at hw
  exact x_vret dX7_guardHears_105 rfl ⟨rfl, hW, hw⟩
def wp_X7_guardHears (σ : xS) (a0 : Nat) (l1 : Int32) (Q : xS → Prop) : Prop := ∀ σ1, σ1 = xs_L σ 494 a0 ((xh_L σ 494 a0) + 1000) → (vp_in l1 40 ∧ (((xh_a σ1 (a0 + 6) l1.toNatClampNeg) = 0 → vp_in l1 40 ∧ (((((xh_a σ1 (a0 + 5) l1.toNatClampNeg) >>> ((xh_I σ1 496 a0) &&& 31)) &&& 1) = 0 → wp_X7_breaks σ1 a0 l1 3 (fun σ13 => wb_X7_guardHears_105 Q σ13 a0)) ∧ (¬ (((xh_a σ1 (a0 + 5) l1.toNatClampNeg) >>> ((xh_I σ1 496 a0) &&& 31)) &&& 1) = 0 → ((xh_I σ1 495 a0) < 0 → vp_in l1 40 ∧ (vp_in l1 40 ∧ (wp_X7_sendsWhen σ1 a0 (xh_a σ1 (a0 + 1) l1.toNatClampNeg) (xh_a σ1 (a0 + 4) l1.toNatClampNeg) (xh_I σ1 497 a0) (fun σ9 => wb_X7_guardHears_105 Q σ9 a0)))) ∧ (¬ (xh_I σ1 495 a0) < 0 → vp_in l1 40 ∧ (vp_in l1 40 ∧ (wp_X7_sendsToThing σ1 a0 (xh_I σ1 495 a0) (xh_a σ1 (a0 + 1) l1.toNatClampNeg) (xh_a σ1 (a0 + 4) l1.toNatClampNeg) (fun σ12 => wb_X7_guardHears_105 Q σ12 a0))))))) ∧ (¬ (xh_a σ1 (a0 + 6) l1.toNatClampNeg) = 0 → wp_X7_breaks σ1 a0 l1 4 (fun σ14 => wb_X7_guardHears_105 Q σ14 a0))))
set_option maxRecDepth 100000 in
set_option maxHeartbeats 4000000 in
theorem ct_X7_guardHears {σ : xS} {a0 : Nat}  {l1 : Int32} {Q : xS → Prop} (hW : xw7 σ a0) (hw : wp_X7_guardHears σ a0 l1 Q) : xCt M_X7_guardHears [.ref a0, .int l1] σ (xqV (fun σ2 => xw7 σ2 a0 ∧ Q σ2)) := by
  refine xCt_ofL (lv := [(0, .ref a0), (1, .int l1)]) pn_X7 (Nat.le_of_ble_eq_true rfl) rfl ?_
  unfold wp_X7_guardHears at hw
  refine x_aload_n dX7_guardHears_0 rfl 0 rfl ?_
  refine x_dup dX7_guardHears_1 rfl ?_
  refine x_get (ci := 7) (k := 46) (v := .long (xh_L σ 494 a0)) dX7_guardHears_2 wF_X7_215 (Nat.le_of_ble_eq_true rfl) (Nat.le_of_ble_eq_true rfl) hW.1 rfl ?_
  refine x_ldc2 dX7_guardHears_5 wL_X7_239 ?_
  refine x_ladd dX7_guardHears_8 ?_
  refine x_putLN (ci := 7) (k := 46) (f := 494) dX7_guardHears_9 wF_X7_215 (Nat.le_of_ble_eq_true rfl) (Nat.le_of_ble_eq_true rfl) hW.1 (Or.inl rfl) rfl rfl (fun σ1 hσ1 => ?_)
  replace hw := hw σ1 hσ1
  refine x_aload_n dX7_guardHears_12 rfl 0 rfl ?_
  have hW := (xw7_L hσ1 hW)
  refine x_get (ci := 7) (k := 6) (v := .ref (a0 + 6)) dX7_guardHears_13 wF_X7_25 (Nat.le_of_ble_eq_true rfl) (Nat.le_of_ble_eq_true rfl) hW.1 (congrArg va_rf (w7r_6 hW)) ?_
  refine x_iload_n dX7_guardHears_16 rfl 1 rfl ?_
  obtain ⟨hv2, hw⟩ := hw
  refine x_zaldZ dX7_guardHears_17 (w7k_6 hW) (w7z_6 hW) hv2 ?_
  refine x_if_eq 30 dX7_guardHears_18 rfl (fun hc3 => ?_) (fun hc3 => ?_)
  · replace hw := hw.1 hc3
    refine x_aload_n dX7_guardHears_30 rfl 0 rfl ?_
    refine x_get (ci := 7) (k := 5) (v := .ref (a0 + 5)) dX7_guardHears_31 wF_X7_22 (Nat.le_of_ble_eq_true rfl) (Nat.le_of_ble_eq_true rfl) hW.1 (congrArg va_rf (w7r_5 hW)) ?_
    refine x_iload_n dX7_guardHears_34 rfl 1 rfl ?_
    obtain ⟨hv4, hw⟩ := hw
    refine x_ialdZ dX7_guardHears_35 (w7k_5 hW) (w7z_5 hW) hv4 ?_
    refine x_aload_n dX7_guardHears_36 rfl 0 rfl ?_
    refine x_get (ci := 7) (k := 48) (v := .int (xh_I σ1 496 a0)) dX7_guardHears_37 wF_X7_219 (Nat.le_of_ble_eq_true rfl) (Nat.le_of_ble_eq_true rfl) hW.1 rfl ?_
    refine x_ishr dX7_guardHears_40 ?_
    refine x_iconst dX7_guardHears_41 cI_1 ?_
    refine x_iand dX7_guardHears_42 ?_
    refine x_if_ne 55 dX7_guardHears_43 rfl (fun hc5 => ?_) (fun hc5 => ?_)
    · replace hw := hw.2 hc5
      refine x_aload_n dX7_guardHears_55 rfl 0 rfl ?_
      refine x_get (ci := 7) (k := 47) (v := .int (xh_I σ1 495 a0)) dX7_guardHears_56 wF_X7_209 (Nat.le_of_ble_eq_true rfl) (Nat.le_of_ble_eq_true rfl) hW.1 rfl ?_
      refine x_if_lt 85 dX7_guardHears_59 rfl (fun hc6 => ?_) (fun hc6 => ?_)
      · replace hw := hw.1 hc6
        refine x_aload_n dX7_guardHears_85 rfl 0 rfl ?_
        refine x_aload_n dX7_guardHears_86 rfl 0 rfl ?_
        refine x_get (ci := 7) (k := 1) (v := .ref (a0 + 1)) dX7_guardHears_87 wF_X7_7 (Nat.le_of_ble_eq_true rfl) (Nat.le_of_ble_eq_true rfl) hW.1 (congrArg va_rf (w7r_1 hW)) ?_
        refine x_iload_n dX7_guardHears_90 rfl 1 rfl ?_
        obtain ⟨hv7, hw⟩ := hw
        refine x_ialdZ dX7_guardHears_91 (w7k_1 hW) (w7z_1 hW) hv7 ?_
        refine x_aload_n dX7_guardHears_92 rfl 0 rfl ?_
        refine x_get (ci := 7) (k := 4) (v := .ref (a0 + 4)) dX7_guardHears_93 wF_X7_19 (Nat.le_of_ble_eq_true rfl) (Nat.le_of_ble_eq_true rfl) hW.1 (congrArg va_rf (w7r_4 hW)) ?_
        refine x_iload_n dX7_guardHears_96 rfl 1 rfl ?_
        obtain ⟨hv8, hw⟩ := hw
        refine x_ialdZ dX7_guardHears_97 (w7k_4 hW) (w7z_4 hW) hv8 ?_
        refine x_aload_n dX7_guardHears_98 rfl 0 rfl ?_
        refine x_get (ci := 7) (k := 49) (v := .int (xh_I σ1 497 a0)) dX7_guardHears_99 wF_X7_222 (Nat.le_of_ble_eq_true rfl) (Nat.le_of_ble_eq_true rfl) hW.1 rfl ?_
        refine x_callV (M2 := M_X7_sendsWhen) (As := [.int (xh_a σ1 (a0 + 1) l1.toNatClampNeg), .int (xh_a σ1 (a0 + 4) l1.toNatClampNeg), .int (xh_I σ1 497 a0)]) (st := []) (ci := 7) (Nat.le_of_ble_eq_true rfl) hW.1 rfl wM_X7_154 wI_X7_sendsWhen wS_X7_sendsWhen dX7_guardHears_102 rfl ok_X7_sendsWhen ⟨(Nat.le_of_ble_eq_true rfl), (Nat.le_of_ble_eq_true rfl)⟩ (Nat.le_of_ble_eq_true rfl) (ct_X7_sendsWhen hW hw) (xqV.k (fun σ9 hw2 => ?_))
        obtain ⟨hW, hw⟩ := hw2
        exact x_sub [0] rfl (xb_X7_guardHears_105 hW hw)
      · replace hw := hw.2 hc6
        refine x_aload_n dX7_guardHears_62 rfl 0 rfl ?_
        refine x_aload_n dX7_guardHears_63 rfl 0 rfl ?_
        refine x_get (ci := 7) (k := 47) (v := .int (xh_I σ1 495 a0)) dX7_guardHears_64 wF_X7_209 (Nat.le_of_ble_eq_true rfl) (Nat.le_of_ble_eq_true rfl) hW.1 rfl ?_
        refine x_aload_n dX7_guardHears_67 rfl 0 rfl ?_
        refine x_get (ci := 7) (k := 1) (v := .ref (a0 + 1)) dX7_guardHears_68 wF_X7_7 (Nat.le_of_ble_eq_true rfl) (Nat.le_of_ble_eq_true rfl) hW.1 (congrArg va_rf (w7r_1 hW)) ?_
        refine x_iload_n dX7_guardHears_71 rfl 1 rfl ?_
        obtain ⟨hv10, hw⟩ := hw
        refine x_ialdZ dX7_guardHears_72 (w7k_1 hW) (w7z_1 hW) hv10 ?_
        refine x_aload_n dX7_guardHears_73 rfl 0 rfl ?_
        refine x_get (ci := 7) (k := 4) (v := .ref (a0 + 4)) dX7_guardHears_74 wF_X7_19 (Nat.le_of_ble_eq_true rfl) (Nat.le_of_ble_eq_true rfl) hW.1 (congrArg va_rf (w7r_4 hW)) ?_
        refine x_iload_n dX7_guardHears_77 rfl 1 rfl ?_
        obtain ⟨hv11, hw⟩ := hw
        refine x_ialdZ dX7_guardHears_78 (w7k_4 hW) (w7z_4 hW) hv11 ?_
        refine x_callV (M2 := M_X7_sendsToThing) (As := [.int (xh_I σ1 495 a0), .int (xh_a σ1 (a0 + 1) l1.toNatClampNeg), .int (xh_a σ1 (a0 + 4) l1.toNatClampNeg)]) (st := []) (ci := 7) (Nat.le_of_ble_eq_true rfl) hW.1 rfl wM_X7_196 wI_X7_sendsToThing wS_X7_sendsToThing dX7_guardHears_79 rfl ok_X7_sendsToThing ⟨(Nat.le_of_ble_eq_true rfl), (Nat.le_of_ble_eq_true rfl)⟩ (Nat.le_of_ble_eq_true rfl) (ct_X7_sendsToThing hW hw) (xqV.k (fun σ12 hw2 => ?_))
        obtain ⟨hW, hw⟩ := hw2
        refine x_goto 105 dX7_guardHears_82 rfl ?_
        exact x_sub [0] rfl (xb_X7_guardHears_105 hW hw)
    · replace hw := hw.1 hc5
      refine x_aload_n dX7_guardHears_46 rfl 0 rfl ?_
      refine x_iload_n dX7_guardHears_47 rfl 1 rfl ?_
      refine x_iconst dX7_guardHears_48 cI_3 ?_
      refine x_callV (M2 := M_X7_breaks) (As := [.int l1, .int 3]) (st := []) (ci := 7) (Nat.le_of_ble_eq_true rfl) hW.1 rfl wM_X7_225 wI_X7_breaks wS_X7_breaks dX7_guardHears_49 rfl ok_X7_breaks ⟨(Nat.le_of_ble_eq_true rfl), (Nat.le_of_ble_eq_true rfl)⟩ (Nat.le_of_ble_eq_true rfl) (ct_X7_breaks hW hw) (xqV.k (fun σ13 hw2 => ?_))
      obtain ⟨hW, hw⟩ := hw2
      refine x_goto 105 dX7_guardHears_52 rfl ?_
      exact x_sub [0] rfl (xb_X7_guardHears_105 hW hw)
  · replace hw := hw.2 hc3
    refine x_aload_n dX7_guardHears_21 rfl 0 rfl ?_
    refine x_iload_n dX7_guardHears_22 rfl 1 rfl ?_
    refine x_iconst dX7_guardHears_23 cI_4 ?_
    refine x_callV (M2 := M_X7_breaks) (As := [.int l1, .int 4]) (st := []) (ci := 7) (Nat.le_of_ble_eq_true rfl) hW.1 rfl wM_X7_225 wI_X7_breaks wS_X7_breaks dX7_guardHears_24 rfl ok_X7_breaks ⟨(Nat.le_of_ble_eq_true rfl), (Nat.le_of_ble_eq_true rfl)⟩ (Nat.le_of_ble_eq_true rfl) (ct_X7_breaks hW hw) (xqV.k (fun σ14 hw2 => ?_))
    obtain ⟨hW, hw⟩ := hw2
    refine x_goto 105 dX7_guardHears_27 rfl ?_
    exact x_sub [0] rfl (xb_X7_guardHears_105 hW hw)
-- PromiseWireModel.switchHears(I)V
def wb_X7_switchHears_35 (Q : xS → Prop) (σ : xS) (a0 : Nat) : Prop := Q σ
set_option maxRecDepth 100000 in
set_option maxHeartbeats 4000000 in
theorem xb_X7_switchHears_35 {Q : xS → Prop} {σ : xS} {a0 : Nat}  (hW : xw7 σ a0)  (hw : wb_X7_switchHears_35 Q σ a0) : xX M_X7_switchHears 35 [(0, .ref a0)] [] σ (xqV (fun σ2 => xw7 σ2 a0 ∧ Q σ2)) := by
  unfold wb_X7_switchHears_35 at hw
  exact x_vret dX7_switchHears_35 rfl ⟨rfl, hW, hw⟩
def wp_X7_switchHears (σ : xS) (a0 : Nat) (l1 : Int32) (Q : xS → Prop) : Prop := ∀ σ1, σ1 = xs_L σ 494 a0 ((xh_L σ 494 a0) + 10000) → (vp_in l1 40 ∧ (((xh_a σ1 (a0 + 7) l1.toNatClampNeg) = 0 → wp_X7_guardHears σ1 a0 l1 (fun σ4 => wb_X7_switchHears_35 Q σ4 a0)) ∧ (¬ (xh_a σ1 (a0 + 7) l1.toNatClampNeg) = 0 → wp_X7_breaks σ1 a0 l1 4 (fun σ5 => wb_X7_switchHears_35 Q σ5 a0))))
set_option maxRecDepth 100000 in
set_option maxHeartbeats 4000000 in
theorem ct_X7_switchHears {σ : xS} {a0 : Nat}  {l1 : Int32} {Q : xS → Prop} (hW : xw7 σ a0) (hw : wp_X7_switchHears σ a0 l1 Q) : xCt M_X7_switchHears [.ref a0, .int l1] σ (xqV (fun σ2 => xw7 σ2 a0 ∧ Q σ2)) := by
  refine xCt_ofL (lv := [(0, .ref a0), (1, .int l1)]) pn_X7 (Nat.le_of_ble_eq_true rfl) rfl ?_
  unfold wp_X7_switchHears at hw
  refine x_aload_n dX7_switchHears_0 rfl 0 rfl ?_
  refine x_dup dX7_switchHears_1 rfl ?_
  refine x_get (ci := 7) (k := 46) (v := .long (xh_L σ 494 a0)) dX7_switchHears_2 wF_X7_215 (Nat.le_of_ble_eq_true rfl) (Nat.le_of_ble_eq_true rfl) hW.1 rfl ?_
  refine x_ldc2 dX7_switchHears_5 wL_X7_241 ?_
  refine x_ladd dX7_switchHears_8 ?_
  refine x_putLN (ci := 7) (k := 46) (f := 494) dX7_switchHears_9 wF_X7_215 (Nat.le_of_ble_eq_true rfl) (Nat.le_of_ble_eq_true rfl) hW.1 (Or.inl rfl) rfl rfl (fun σ1 hσ1 => ?_)
  replace hw := hw σ1 hσ1
  refine x_aload_n dX7_switchHears_12 rfl 0 rfl ?_
  have hW := (xw7_L hσ1 hW)
  refine x_get (ci := 7) (k := 7) (v := .ref (a0 + 7)) dX7_switchHears_13 wF_X7_29 (Nat.le_of_ble_eq_true rfl) (Nat.le_of_ble_eq_true rfl) hW.1 (congrArg va_rf (w7r_7 hW)) ?_
  refine x_iload_n dX7_switchHears_16 rfl 1 rfl ?_
  obtain ⟨hv2, hw⟩ := hw
  refine x_zaldZ dX7_switchHears_17 (w7k_7 hW) (w7z_7 hW) hv2 ?_
  refine x_if_eq 30 dX7_switchHears_18 rfl (fun hc3 => ?_) (fun hc3 => ?_)
  · replace hw := hw.1 hc3
    refine x_aload_n dX7_switchHears_30 rfl 0 rfl ?_
    refine x_iload_n dX7_switchHears_31 rfl 1 rfl ?_
    refine x_callV (M2 := M_X7_guardHears) (As := [.int l1]) (st := []) (ci := 7) (Nat.le_of_ble_eq_true rfl) hW.1 rfl wM_X7_243 wI_X7_guardHears wS_X7_guardHears dX7_switchHears_32 rfl ok_X7_guardHears ⟨(Nat.le_of_ble_eq_true rfl), (Nat.le_of_ble_eq_true rfl)⟩ (Nat.le_of_ble_eq_true rfl) (ct_X7_guardHears hW hw) (xqV.k (fun σ4 hw2 => ?_))
    obtain ⟨hW, hw⟩ := hw2
    exact x_sub [0] rfl (xb_X7_switchHears_35 hW hw)
  · replace hw := hw.2 hc3
    refine x_aload_n dX7_switchHears_21 rfl 0 rfl ?_
    refine x_iload_n dX7_switchHears_22 rfl 1 rfl ?_
    refine x_iconst dX7_switchHears_23 cI_4 ?_
    refine x_callV (M2 := M_X7_breaks) (As := [.int l1, .int 4]) (st := []) (ci := 7) (Nat.le_of_ble_eq_true rfl) hW.1 rfl wM_X7_225 wI_X7_breaks wS_X7_breaks dX7_switchHears_24 rfl ok_X7_breaks ⟨(Nat.le_of_ble_eq_true rfl), (Nat.le_of_ble_eq_true rfl)⟩ (Nat.le_of_ble_eq_true rfl) (ct_X7_breaks hW hw) (xqV.k (fun σ5 hw2 => ?_))
    obtain ⟨hW, hw⟩ := hw2
    refine x_goto 35 dX7_switchHears_27 rfl ?_
    exact x_sub [0] rfl (xb_X7_switchHears_35 hW hw)
-- PromiseWireModel.holds(I)V
def wp_X7_holds (σ : xS) (a0 : Nat) (l1 : Int32) (Q : xS → Prop) : Prop := vp_in (xh_I σ 495 a0) 100 ∧ ∀ σ2, σ2 = xs_a σ (a0 + 16) (xh_I σ 495 a0).toNatClampNeg 1 → (vp_in (xh_I σ2 495 a0) 100 ∧ ∀ σ4, σ4 = xs_a σ2 (a0 + 21) (xh_I σ2 495 a0).toNatClampNeg l1 → (vp_in (xh_I σ4 495 a0) 100 ∧ ∀ σ6, σ6 = xs_a σ4 (a0 + 22) (xh_I σ4 495 a0).toNatClampNeg (xh_I σ4 472 a0) → (∀ σ7, σ7 = xs_I σ6 472 a0 ((xh_I σ6 472 a0) + 1) → (vp_in l1 40 ∧ (vp_in l1 40 ∧ ∀ σ10, σ10 = xs_a σ7 (a0 + 8) l1.toNatClampNeg ((xh_a σ7 (a0 + 8) l1.toNatClampNeg) + 1) → (Q σ10))))))
set_option maxRecDepth 100000 in
set_option maxHeartbeats 4000000 in
theorem ct_X7_holds {σ : xS} {a0 : Nat}  {l1 : Int32} {Q : xS → Prop} (hW : xw7 σ a0) (hw : wp_X7_holds σ a0 l1 Q) : xCt M_X7_holds [.ref a0, .int l1] σ (xqV (fun σ2 => xw7 σ2 a0 ∧ Q σ2)) := by
  refine xCt_ofL (lv := [(0, .ref a0), (1, .int l1)]) pn_X7 (Nat.le_of_ble_eq_true rfl) rfl ?_
  unfold wp_X7_holds at hw
  refine x_aload_n dX7_holds_0 rfl 0 rfl ?_
  refine x_get (ci := 7) (k := 17) (v := .ref (a0 + 16)) dX7_holds_1 wF_X7_56 (Nat.le_of_ble_eq_true rfl) (Nat.le_of_ble_eq_true rfl) hW.1 (congrArg va_rf (w7r_16 hW)) ?_
  refine x_aload_n dX7_holds_4 rfl 0 rfl ?_
  refine x_get (ci := 7) (k := 47) (v := .int (xh_I σ 495 a0)) dX7_holds_5 wF_X7_209 (Nat.le_of_ble_eq_true rfl) (Nat.le_of_ble_eq_true rfl) hW.1 rfl ?_
  refine x_iconst dX7_holds_8 cI_1 ?_
  obtain ⟨hv1, hw⟩ := hw
  refine x_iastN dX7_holds_9 (w7k_16 hW) (w7z_16 hW) hv1 (fun σ2 hσ2 => ?_)
  replace hw := hw σ2 hσ2
  refine x_aload_n dX7_holds_10 rfl 0 rfl ?_
  have hW := (xw7_a hσ2 hW)
  refine x_get (ci := 7) (k := 22) (v := .ref (a0 + 21)) dX7_holds_11 wF_X7_71 (Nat.le_of_ble_eq_true rfl) (Nat.le_of_ble_eq_true rfl) hW.1 (congrArg va_rf (w7r_21 hW)) ?_
  refine x_aload_n dX7_holds_14 rfl 0 rfl ?_
  refine x_get (ci := 7) (k := 47) (v := .int (xh_I σ2 495 a0)) dX7_holds_15 wF_X7_209 (Nat.le_of_ble_eq_true rfl) (Nat.le_of_ble_eq_true rfl) hW.1 rfl ?_
  refine x_iload_n dX7_holds_18 rfl 1 rfl ?_
  obtain ⟨hv3, hw⟩ := hw
  refine x_iastN dX7_holds_19 (w7k_21 hW) (w7z_21 hW) hv3 (fun σ4 hσ4 => ?_)
  replace hw := hw σ4 hσ4
  refine x_aload_n dX7_holds_20 rfl 0 rfl ?_
  have hW := (xw7_a hσ4 hW)
  refine x_get (ci := 7) (k := 23) (v := .ref (a0 + 22)) dX7_holds_21 wF_X7_74 (Nat.le_of_ble_eq_true rfl) (Nat.le_of_ble_eq_true rfl) hW.1 (congrArg va_rf (w7r_22 hW)) ?_
  refine x_aload_n dX7_holds_24 rfl 0 rfl ?_
  refine x_get (ci := 7) (k := 47) (v := .int (xh_I σ4 495 a0)) dX7_holds_25 wF_X7_209 (Nat.le_of_ble_eq_true rfl) (Nat.le_of_ble_eq_true rfl) hW.1 rfl ?_
  refine x_aload_n dX7_holds_28 rfl 0 rfl ?_
  refine x_get (ci := 7) (k := 24) (v := .int (xh_I σ4 472 a0)) dX7_holds_29 wF_X7_246 (Nat.le_of_ble_eq_true rfl) (Nat.le_of_ble_eq_true rfl) hW.1 rfl ?_
  obtain ⟨hv5, hw⟩ := hw
  refine x_iastN dX7_holds_32 (w7k_22 hW) (w7z_22 hW) hv5 (fun σ6 hσ6 => ?_)
  replace hw := hw σ6 hσ6
  refine x_aload_n dX7_holds_33 rfl 0 rfl ?_
  refine x_dup dX7_holds_34 rfl ?_
  have hW := (xw7_a hσ6 hW)
  refine x_get (ci := 7) (k := 24) (v := .int (xh_I σ6 472 a0)) dX7_holds_35 wF_X7_246 (Nat.le_of_ble_eq_true rfl) (Nat.le_of_ble_eq_true rfl) hW.1 rfl ?_
  refine x_iconst dX7_holds_38 cI_1 ?_
  refine x_iadd dX7_holds_39 ?_
  refine x_putIN (ci := 7) (k := 24) (f := 472) dX7_holds_40 wF_X7_246 (Nat.le_of_ble_eq_true rfl) (Nat.le_of_ble_eq_true rfl) hW.1 (Or.inl rfl) rfl (Or.inl rfl) (fun σ7 hσ7 => ?_)
  replace hw := hw σ7 hσ7
  refine x_aload_n dX7_holds_43 rfl 0 rfl ?_
  have hW := (xw7_I hσ7 hW)
  refine x_get (ci := 7) (k := 8) (v := .ref (a0 + 8)) dX7_holds_44 wF_X7_32 (Nat.le_of_ble_eq_true rfl) (Nat.le_of_ble_eq_true rfl) hW.1 (congrArg va_rf (w7r_8 hW)) ?_
  refine x_iload_n dX7_holds_47 rfl 1 rfl ?_
  refine x_dup2 dX7_holds_48 rfl rfl ?_
  obtain ⟨hv8, hw⟩ := hw
  refine x_ialdZ dX7_holds_49 (w7k_8 hW) (w7z_8 hW) hv8 ?_
  refine x_iconst dX7_holds_50 cI_1 ?_
  refine x_iadd dX7_holds_51 ?_
  obtain ⟨hv9, hw⟩ := hw
  refine x_iastN dX7_holds_52 (w7k_8 hW) (w7z_8 hW) hv9 (fun σ10 hσ10 => ?_)
  replace hw := hw σ10 hσ10
  have hW := (xw7_a hσ10 hW)
  exact x_vret dX7_holds_53 rfl ⟨rfl, hW, hw⟩
-- PromiseWireModel.answersAll(II)I
def wb_X7_answersAll_22 (Q : Int32 → xS → Prop) (a0 : Nat) : Nat → xS → Int32 → Int32 → Int32 → Int32 → Prop
  | 0, _, _, _, _, _ => False
  | n + 1, σ, l1, l2, l3, l4 => (l4 < 0 → Q l3 σ) ∧ (¬ l4 < 0 → vp_in l1 40 ∧ (wp_X7_settles σ a0 l4 (xh_a σ (a0 + 1) l1.toNatClampNeg) 1 l2 (fun σ3 => wp_X7_firstKept σ3 a0 1 l1 (fun x4 => wb_X7_answersAll_22 Q a0 n σ3 l1 l2 l3 x4))))
set_option maxRecDepth 100000 in
set_option maxHeartbeats 4000000 in
theorem xl_X7_answersAll_22 {Q : Int32 → xS → Prop} {a0 : Nat}  : ∀ (n : Nat) (σ : xS) (l1 : Int32) (l2 : Int32) (l3 : Int32) (l4 : Int32), xw7 σ a0 → wb_X7_answersAll_22 Q a0 n σ l1 l2 l3 l4 → xX M_X7_answersAll 22 [(0, .ref a0), (1, .int l1), (2, .int l2), (3, .int l3), (4, .int l4)] [] σ (xqI (fun r σ2 => xw7 σ2 a0 ∧ Q r σ2)) := by
  intro n
  induction n with
  | zero => intro σ l1 l2 l3 l4 hW hw; exact False.elim hw
  | succ n ih =>
    intro σ l1 l2 l3 l4 hW hw
    unfold wb_X7_answersAll_22 at hw
    refine x_iload dX7_answersAll_22 4 rfl ?_
    refine x_if_lt 52 dX7_answersAll_24 rfl (fun hc1 => ?_) (fun hc1 => ?_)
    · replace hw := hw.1 hc1
      refine x_iload_n dX7_answersAll_52 rfl 3 rfl ?_
      exact x_iret dX7_answersAll_53 rfl ⟨l3, rfl, hW, hw⟩
    · replace hw := hw.2 hc1
      refine x_aload_n dX7_answersAll_27 rfl 0 rfl ?_
      refine x_iload dX7_answersAll_28 4 rfl ?_
      refine x_aload_n dX7_answersAll_30 rfl 0 rfl ?_
      refine x_get (ci := 7) (k := 1) (v := .ref (a0 + 1)) dX7_answersAll_31 wF_X7_7 (Nat.le_of_ble_eq_true rfl) (Nat.le_of_ble_eq_true rfl) hW.1 (congrArg va_rf (w7r_1 hW)) ?_
      refine x_iload_n dX7_answersAll_34 rfl 1 rfl ?_
      obtain ⟨hv2, hw⟩ := hw
      refine x_ialdZ dX7_answersAll_35 (w7k_1 hW) (w7z_1 hW) hv2 ?_
      refine x_iconst dX7_answersAll_36 cI_1 ?_
      refine x_iload_n dX7_answersAll_37 rfl 2 rfl ?_
      refine x_callV (M2 := M_X7_settles) (As := [.int l4, .int (xh_a σ (a0 + 1) l1.toNatClampNeg), .int 1, .int l2]) (st := []) (ci := 7) (Nat.le_of_ble_eq_true rfl) hW.1 rfl wM_X7_185 wI_X7_settles wS_X7_settles dX7_answersAll_38 rfl ok_X7_settles ⟨(Nat.le_of_ble_eq_true rfl), (Nat.le_of_ble_eq_true rfl)⟩ (Nat.le_of_ble_eq_true rfl) (ct_X7_settles hW hw) (xqV.k (fun σ3 hw2 => ?_))
      obtain ⟨hW, hw⟩ := hw2
      refine x_aload_n dX7_answersAll_41 rfl 0 rfl ?_
      refine x_iconst dX7_answersAll_42 cI_1 ?_
      refine x_iload_n dX7_answersAll_43 rfl 1 rfl ?_
      refine x_callV (M2 := M_X7_firstKept) (As := [.int 1, .int l1]) (st := []) (ci := 7) (Nat.le_of_ble_eq_true rfl) hW.1 rfl wM_X7_199 wI_X7_firstKept wS_X7_firstKept dX7_answersAll_44 rfl ok_X7_firstKept ⟨(Nat.le_of_ble_eq_true rfl), (Nat.le_of_ble_eq_true rfl)⟩ (Nat.le_of_ble_eq_true rfl) (ct_X7_firstKept hW hw) (xqI.k (fun x4 τ5 hw2 => ?_))
      obtain ⟨he, hw⟩ := hw2
      subst he
      refine x_istore [(4, .int x4), (0, .ref a0), (1, .int l1), (2, .int l2), (3, .int l3)] dX7_answersAll_47 (Nat.le_of_ble_eq_true rfl) rfl ?_
      refine x_goto 22 dX7_answersAll_49 rfl ?_
      exact x_sub [1, 2, 3, 4, 0] rfl (ih _ _ _ _ _ hW hw)
def wp_X7_answersAll (σ : xS) (a0 : Nat) (l1 : Int32) (l2 : Int32) (Q : Int32 → xS → Prop) : Prop := vp_in l1 40 ∧ (vp_in l1 40 ∧ ∀ σ8, σ8 = xs_a σ (a0 + 8) l1.toNatClampNeg 0 → (wp_X7_firstKept σ8 a0 1 l1 (fun x9 => ∃ m22, wb_X7_answersAll_22 Q a0 m22 σ8 l1 l2 (xh_a σ (a0 + 8) l1.toNatClampNeg) x9)))
set_option maxRecDepth 100000 in
set_option maxHeartbeats 4000000 in
theorem ct_X7_answersAll {σ : xS} {a0 : Nat}  {l1 : Int32} {l2 : Int32} {Q : Int32 → xS → Prop} (hW : xw7 σ a0) (hw : wp_X7_answersAll σ a0 l1 l2 Q) : xCt M_X7_answersAll [.ref a0, .int l1, .int l2] σ (xqI (fun r σ2 => xw7 σ2 a0 ∧ Q r σ2)) := by
  refine xCt_ofL (lv := [(0, .ref a0), (1, .int l1), (2, .int l2)]) pn_X7 (Nat.le_of_ble_eq_true rfl) rfl ?_
  unfold wp_X7_answersAll at hw
  refine x_aload_n dX7_answersAll_0 rfl 0 rfl ?_
  refine x_get (ci := 7) (k := 8) (v := .ref (a0 + 8)) dX7_answersAll_1 wF_X7_32 (Nat.le_of_ble_eq_true rfl) (Nat.le_of_ble_eq_true rfl) hW.1 (congrArg va_rf (w7r_8 hW)) ?_
  refine x_iload_n dX7_answersAll_4 rfl 1 rfl ?_
  obtain ⟨hv6, hw⟩ := hw
  refine x_ialdZ dX7_answersAll_5 (w7k_8 hW) (w7z_8 hW) hv6 ?_
  refine x_istore_n [(3, .int (xh_a σ (a0 + 8) l1.toNatClampNeg)), (0, .ref a0), (1, .int l1), (2, .int l2)] dX7_answersAll_6 rfl (Nat.le_of_ble_eq_true rfl) rfl ?_
  refine x_aload_n dX7_answersAll_7 rfl 1 rfl ?_
  refine x_get (ci := 7) (k := 8) (v := .ref (a0 + 8)) dX7_answersAll_8 wF_X7_32 (Nat.le_of_ble_eq_true rfl) (Nat.le_of_ble_eq_true rfl) hW.1 (congrArg va_rf (w7r_8 hW)) ?_
  refine x_iload_n dX7_answersAll_11 rfl 2 rfl ?_
  refine x_iconst dX7_answersAll_12 cI_0 ?_
  obtain ⟨hv7, hw⟩ := hw
  refine x_iastN dX7_answersAll_13 (w7k_8 hW) (w7z_8 hW) hv7 (fun σ8 hσ8 => ?_)
  replace hw := hw σ8 hσ8
  refine x_aload_n dX7_answersAll_14 rfl 1 rfl ?_
  refine x_iconst dX7_answersAll_15 cI_1 ?_
  refine x_iload_n dX7_answersAll_16 rfl 2 rfl ?_
  have hW := (xw7_a hσ8 hW)
  refine x_callV (M2 := M_X7_firstKept) (As := [.int 1, .int l1]) (st := []) (ci := 7) (Nat.le_of_ble_eq_true rfl) hW.1 rfl wM_X7_199 wI_X7_firstKept wS_X7_firstKept dX7_answersAll_17 rfl ok_X7_firstKept ⟨(Nat.le_of_ble_eq_true rfl), (Nat.le_of_ble_eq_true rfl)⟩ (Nat.le_of_ble_eq_true rfl) (ct_X7_firstKept hW hw) (xqI.k (fun x9 τ10 hw2 => ?_))
  obtain ⟨he, hw⟩ := hw2
  subst he
  refine x_istore [(4, .int x9), (3, .int (xh_a σ (a0 + 8) l1.toNatClampNeg)), (0, .ref a0), (1, .int l1), (2, .int l2)] dX7_answersAll_20 (Nat.le_of_ble_eq_true rfl) rfl ?_
  obtain ⟨m22, hw⟩ := hw
  exact x_sub [2, 3, 4, 1, 0] rfl (xl_X7_answersAll_22 m22 _ _ _ _ _ hW hw)
-- PromiseWireModel.joiner(I)V
def wb_X7_joiner_149 (Q : xS → Prop) (σ : xS) (a0 : Nat) : Prop := Q σ
set_option maxRecDepth 100000 in
set_option maxHeartbeats 4000000 in
theorem xb_X7_joiner_149 {Q : xS → Prop} {σ : xS} {a0 : Nat}  (hW : xw7 σ a0)  (hw : wb_X7_joiner_149 Q σ a0) : xX M_X7_joiner 149 [(0, .ref a0)] [] σ (xqV (fun σ2 => xw7 σ2 a0 ∧ Q σ2)) := by
  unfold wb_X7_joiner_149 at hw
  exact x_vret dX7_joiner_149 rfl ⟨rfl, hW, hw⟩
def wb_X7_joiner_84 (Q : xS → Prop) (K45 : xS → Int32 → Int32 → Int32 → Prop) (σ : xS) (a0 : Nat) (l1 : Int32) (l3 : Int32) (s0 : Int32) (s1 : Int32) : Prop := K45 σ l1 (s0 + s1) (l3 + 1)
set_option maxRecDepth 100000 in
set_option maxHeartbeats 4000000 in
theorem xb_X7_joiner_84 {Q : xS → Prop} {K45 : xS → Int32 → Int32 → Int32 → Prop} {σ : xS} {a0 : Nat}  {l1 : Int32} {l3 : Int32} {s0 : Int32} {s1 : Int32} (hW : xw7 σ a0)  (hK45 : ∀ (σ : xS) (l1 : Int32) (l2 : Int32) (l3 : Int32), xw7 σ a0 → K45 σ l1 l2 l3 → xX M_X7_joiner 45 [(0, .ref a0), (1, .int l1), (2, .int l2), (3, .int l3)] [] σ (xqV (fun σ2 => xw7 σ2 a0 ∧ Q σ2))) (hw : wb_X7_joiner_84 Q K45 σ a0 l1 l3 s0 s1) : xX M_X7_joiner 84 [(0, .ref a0), (1, .int l1), (3, .int l3)] [.int s1, .int s0] σ (xqV (fun σ2 => xw7 σ2 a0 ∧ Q σ2)) := by
  unfold wb_X7_joiner_84 at hw
  refine x_iadd dX7_joiner_84 ?_
  refine x_istore_n [(2, .int (s0 + s1)), (0, .ref a0), (1, .int l1), (3, .int l3)] dX7_joiner_85 rfl (Nat.le_of_ble_eq_true rfl) rfl ?_
  refine x_iinc [(3, .int (l3 + 1)), (2, .int (s0 + s1)), (0, .ref a0), (1, .int l1)] dX7_joiner_86 3 rfl (congrArg _ cI_1) (Nat.le_of_ble_eq_true rfl) rfl ?_
  refine x_goto 45 dX7_joiner_89 rfl ?_
  exact x_sub [2, 3, 1, 0] rfl (hK45 _ _ _ _ hW hw)
def wb_X7_joiner_83 (Q : xS → Prop) (K45 : xS → Int32 → Int32 → Int32 → Prop) (σ : xS) (a0 : Nat) (l1 : Int32) (l3 : Int32) (s0 : Int32) : Prop := wb_X7_joiner_84 Q K45 σ a0 l1 l3 s0 0
set_option maxRecDepth 100000 in
set_option maxHeartbeats 4000000 in
theorem xb_X7_joiner_83 {Q : xS → Prop} {K45 : xS → Int32 → Int32 → Int32 → Prop} {σ : xS} {a0 : Nat}  {l1 : Int32} {l3 : Int32} {s0 : Int32} (hW : xw7 σ a0)  (hK45 : ∀ (σ : xS) (l1 : Int32) (l2 : Int32) (l3 : Int32), xw7 σ a0 → K45 σ l1 l2 l3 → xX M_X7_joiner 45 [(0, .ref a0), (1, .int l1), (2, .int l2), (3, .int l3)] [] σ (xqV (fun σ2 => xw7 σ2 a0 ∧ Q σ2))) (hw : wb_X7_joiner_83 Q K45 σ a0 l1 l3 s0) : xX M_X7_joiner 83 [(0, .ref a0), (1, .int l1), (3, .int l3)] [.int s0] σ (xqV (fun σ2 => xw7 σ2 a0 ∧ Q σ2)) := by
  unfold wb_X7_joiner_83 at hw
  refine x_iconst dX7_joiner_83 cI_0 ?_
  exact x_sub [0, 1, 2] rfl (xb_X7_joiner_84 hW hK45 hw)
def wb_X7_joiner_45 (Q : xS → Prop) (a0 : Nat) : Nat → xS → Int32 → Int32 → Int32 → Prop
  | 0, _, _, _, _ => False
  | n + 1, σ, l1, l2, l3 => ((xh_I σ 457 a0) ≤ l3 → wp_X7_answersAll σ a0 l1 l2 (fun x2 σ3 => wb_X7_joiner_149 Q σ3 a0)) ∧ (¬ (xh_I σ 457 a0) ≤ l3 → vp_in l3 100 ∧ (((xh_a σ (a0 + 16) l3.toNatClampNeg) = 1 → vp_in l3 100 ∧ (((xh_a σ (a0 + 21) l3.toNatClampNeg) = l1 → vp_in l3 100 ∧ (wb_X7_joiner_84 Q (fun σ l1 l2 l3 => wb_X7_joiner_45 Q a0 n σ l1 l2 l3) σ a0 l1 l3 l2 (xh_a σ (a0 + 18) l3.toNatClampNeg))) ∧ (¬ (xh_a σ (a0 + 21) l3.toNatClampNeg) = l1 → wb_X7_joiner_83 Q (fun σ l1 l2 l3 => wb_X7_joiner_45 Q a0 n σ l1 l2 l3) σ a0 l1 l3 l2))) ∧ (¬ (xh_a σ (a0 + 16) l3.toNatClampNeg) = 1 → wb_X7_joiner_83 Q (fun σ l1 l2 l3 => wb_X7_joiner_45 Q a0 n σ l1 l2 l3) σ a0 l1 l3 l2)))
set_option maxRecDepth 100000 in
set_option maxHeartbeats 4000000 in
theorem xl_X7_joiner_45 {Q : xS → Prop} {a0 : Nat}  : ∀ (n : Nat) (σ : xS) (l1 : Int32) (l2 : Int32) (l3 : Int32), xw7 σ a0 → wb_X7_joiner_45 Q a0 n σ l1 l2 l3 → xX M_X7_joiner 45 [(0, .ref a0), (1, .int l1), (2, .int l2), (3, .int l3)] [] σ (xqV (fun σ2 => xw7 σ2 a0 ∧ Q σ2)) := by
  intro n
  induction n with
  | zero => intro σ l1 l2 l3 hW hw; exact False.elim hw
  | succ n ih =>
    intro σ l1 l2 l3 hW hw
    unfold wb_X7_joiner_45 at hw
    refine x_iload_n dX7_joiner_45 rfl 3 rfl ?_
    refine x_aload_n dX7_joiner_46 rfl 0 rfl ?_
    refine x_get (ci := 7) (k := 9) (v := .int (xh_I σ 457 a0)) dX7_joiner_47 wF_X7_136 (Nat.le_of_ble_eq_true rfl) (Nat.le_of_ble_eq_true rfl) hW.1 rfl ?_
    refine x_icmp_ge 92 dX7_joiner_50 rfl (fun hc1 => ?_) (fun hc1 => ?_)
    · replace hw := hw.1 hc1
      refine x_aload_n dX7_joiner_92 rfl 0 rfl ?_
      refine x_iload_n dX7_joiner_93 rfl 1 rfl ?_
      refine x_iload_n dX7_joiner_94 rfl 2 rfl ?_
      refine x_callV (M2 := M_X7_answersAll) (As := [.int l1, .int l2]) (st := []) (ci := 7) (Nat.le_of_ble_eq_true rfl) hW.1 rfl wM_X7_254 wI_X7_answersAll wS_X7_answersAll dX7_joiner_95 rfl ok_X7_answersAll ⟨(Nat.le_of_ble_eq_true rfl), (Nat.le_of_ble_eq_true rfl)⟩ (Nat.le_of_ble_eq_true rfl) (ct_X7_answersAll hW hw) (xqI.k (fun x2 σ3 hw2 => ?_))
      obtain ⟨hW, hw⟩ := hw2
      refine x_istore_n [(3, .int x2), (0, .ref a0), (1, .int l1), (2, .int l2)] dX7_joiner_98 rfl (Nat.le_of_ble_eq_true rfl) rfl ?_
      refine x_goto 149 dX7_joiner_99 rfl ?_
      exact x_sub [1] rfl (xb_X7_joiner_149 hW hw)
    · replace hw := hw.2 hc1
      refine x_iload_n dX7_joiner_53 rfl 2 rfl ?_
      refine x_aload_n dX7_joiner_54 rfl 0 rfl ?_
      refine x_get (ci := 7) (k := 17) (v := .ref (a0 + 16)) dX7_joiner_55 wF_X7_56 (Nat.le_of_ble_eq_true rfl) (Nat.le_of_ble_eq_true rfl) hW.1 (congrArg va_rf (w7r_16 hW)) ?_
      refine x_iload_n dX7_joiner_58 rfl 3 rfl ?_
      obtain ⟨hv4, hw⟩ := hw
      refine x_ialdZ dX7_joiner_59 (w7k_16 hW) (w7z_16 hW) hv4 ?_
      refine x_iconst dX7_joiner_60 cI_1 ?_
      refine x_icmp_ne 83 dX7_joiner_61 rfl (fun hc5 => ?_) (fun hc5 => ?_)
      · replace hw := hw.2 hc5
        exact x_sub [0, 1, 3] rfl (xb_X7_joiner_83 hW ih hw)
      · replace hw := hw.1 hc5
        refine x_aload_n dX7_joiner_64 rfl 0 rfl ?_
        refine x_get (ci := 7) (k := 22) (v := .ref (a0 + 21)) dX7_joiner_65 wF_X7_71 (Nat.le_of_ble_eq_true rfl) (Nat.le_of_ble_eq_true rfl) hW.1 (congrArg va_rf (w7r_21 hW)) ?_
        refine x_iload_n dX7_joiner_68 rfl 3 rfl ?_
        obtain ⟨hv6, hw⟩ := hw
        refine x_ialdZ dX7_joiner_69 (w7k_21 hW) (w7z_21 hW) hv6 ?_
        refine x_iload_n dX7_joiner_70 rfl 1 rfl ?_
        refine x_icmp_ne 83 dX7_joiner_71 rfl (fun hc7 => ?_) (fun hc7 => ?_)
        · replace hw := hw.2 hc7
          exact x_sub [0, 1, 3] rfl (xb_X7_joiner_83 hW ih hw)
        · replace hw := hw.1 hc7
          refine x_aload_n dX7_joiner_74 rfl 0 rfl ?_
          refine x_get (ci := 7) (k := 19) (v := .ref (a0 + 18)) dX7_joiner_75 wF_X7_62 (Nat.le_of_ble_eq_true rfl) (Nat.le_of_ble_eq_true rfl) hW.1 (congrArg va_rf (w7r_18 hW)) ?_
          refine x_iload_n dX7_joiner_78 rfl 3 rfl ?_
          obtain ⟨hv8, hw⟩ := hw
          refine x_ialdZ dX7_joiner_79 (w7k_18 hW) (w7z_18 hW) hv8 ?_
          refine x_goto 84 dX7_joiner_80 rfl ?_
          exact x_sub [0, 1, 3] rfl (xb_X7_joiner_84 hW ih hw)
def wp_X7_joiner (σ : xS) (a0 : Nat) (l1 : Int32) (Q : xS → Prop) : Prop := ∀ σ9, σ9 = xs_L σ 494 a0 ((xh_L σ 494 a0) + 100000) → (((xh_I σ9 496 a0) = 6 → wp_X7_holds σ9 a0 l1 (fun σ17 => vp_in l1 40 ∧ (vp_in l1 40 ∧ (((xh_a σ17 (a0 + 8) l1.toNatClampNeg) < (xh_a σ17 (a0 + 3) l1.toNatClampNeg) → wb_X7_joiner_149 Q σ17 a0) ∧ (¬ (xh_a σ17 (a0 + 8) l1.toNatClampNeg) < (xh_a σ17 (a0 + 3) l1.toNatClampNeg) → ∃ m45, wb_X7_joiner_45 Q a0 m45 σ17 l1 0 0))))) ∧ (¬ (xh_I σ9 496 a0) = 6 → ((xh_I σ9 496 a0) = 0 → vp_in l1 40 ∧ (wp_X7_answers σ9 a0 l1 1 (xh_a σ9 (a0 + 8) l1.toNatClampNeg) (fun σ16 => wb_X7_joiner_149 Q σ16 a0))) ∧ (¬ (xh_I σ9 496 a0) = 0 → ((xh_I σ9 496 a0) = 7 → wp_X7_answers σ9 a0 l1 2 l1 (fun σ14 => wb_X7_joiner_149 Q σ14 a0)) ∧ (¬ (xh_I σ9 496 a0) = 7 → wp_X7_breaks σ9 a0 l1 3 (fun σ13 => wb_X7_joiner_149 Q σ13 a0)))))
set_option maxRecDepth 100000 in
set_option maxHeartbeats 4000000 in
theorem ct_X7_joiner {σ : xS} {a0 : Nat}  {l1 : Int32} {Q : xS → Prop} (hW : xw7 σ a0) (hw : wp_X7_joiner σ a0 l1 Q) : xCt M_X7_joiner [.ref a0, .int l1] σ (xqV (fun σ2 => xw7 σ2 a0 ∧ Q σ2)) := by
  refine xCt_ofL (lv := [(0, .ref a0), (1, .int l1)]) pn_X7 (Nat.le_of_ble_eq_true rfl) rfl ?_
  unfold wp_X7_joiner at hw
  refine x_aload_n dX7_joiner_0 rfl 0 rfl ?_
  refine x_dup dX7_joiner_1 rfl ?_
  refine x_get (ci := 7) (k := 46) (v := .long (xh_L σ 494 a0)) dX7_joiner_2 wF_X7_215 (Nat.le_of_ble_eq_true rfl) (Nat.le_of_ble_eq_true rfl) hW.1 rfl ?_
  refine x_ldc2 dX7_joiner_5 wL_X7_249 ?_
  refine x_ladd dX7_joiner_8 ?_
  refine x_putLN (ci := 7) (k := 46) (f := 494) dX7_joiner_9 wF_X7_215 (Nat.le_of_ble_eq_true rfl) (Nat.le_of_ble_eq_true rfl) hW.1 (Or.inl rfl) rfl rfl (fun σ9 hσ9 => ?_)
  replace hw := hw σ9 hσ9
  refine x_aload_n dX7_joiner_12 rfl 0 rfl ?_
  have hW := (xw7_L hσ9 hW)
  refine x_get (ci := 7) (k := 48) (v := .int (xh_I σ9 496 a0)) dX7_joiner_13 wF_X7_219 (Nat.le_of_ble_eq_true rfl) (Nat.le_of_ble_eq_true rfl) hW.1 rfl ?_
  refine x_bipush dX7_joiner_16 cB_6 ?_
  refine x_icmp_ne 102 dX7_joiner_18 rfl (fun hc10 => ?_) (fun hc10 => ?_)
  · replace hw := hw.2 hc10
    refine x_aload_n dX7_joiner_102 rfl 0 rfl ?_
    refine x_get (ci := 7) (k := 48) (v := .int (xh_I σ9 496 a0)) dX7_joiner_103 wF_X7_219 (Nat.le_of_ble_eq_true rfl) (Nat.le_of_ble_eq_true rfl) hW.1 rfl ?_
    refine x_if_ne 124 dX7_joiner_106 rfl (fun hc11 => ?_) (fun hc11 => ?_)
    · replace hw := hw.2 hc11
      refine x_aload_n dX7_joiner_124 rfl 0 rfl ?_
      refine x_get (ci := 7) (k := 48) (v := .int (xh_I σ9 496 a0)) dX7_joiner_125 wF_X7_219 (Nat.le_of_ble_eq_true rfl) (Nat.le_of_ble_eq_true rfl) hW.1 rfl ?_
      refine x_bipush dX7_joiner_128 cB_7 ?_
      refine x_icmp_ne 143 dX7_joiner_130 rfl (fun hc12 => ?_) (fun hc12 => ?_)
      · replace hw := hw.2 hc12
        refine x_aload_n dX7_joiner_143 rfl 0 rfl ?_
        refine x_iload_n dX7_joiner_144 rfl 1 rfl ?_
        refine x_iconst dX7_joiner_145 cI_3 ?_
        refine x_callV (M2 := M_X7_breaks) (As := [.int l1, .int 3]) (st := []) (ci := 7) (Nat.le_of_ble_eq_true rfl) hW.1 rfl wM_X7_225 wI_X7_breaks wS_X7_breaks dX7_joiner_146 rfl ok_X7_breaks ⟨(Nat.le_of_ble_eq_true rfl), (Nat.le_of_ble_eq_true rfl)⟩ (Nat.le_of_ble_eq_true rfl) (ct_X7_breaks hW hw) (xqV.k (fun σ13 hw2 => ?_))
        obtain ⟨hW, hw⟩ := hw2
        exact x_sub [0] rfl (xb_X7_joiner_149 hW hw)
      · replace hw := hw.1 hc12
        refine x_aload_n dX7_joiner_133 rfl 0 rfl ?_
        refine x_iload_n dX7_joiner_134 rfl 1 rfl ?_
        refine x_iconst dX7_joiner_135 cI_2 ?_
        refine x_iload_n dX7_joiner_136 rfl 1 rfl ?_
        refine x_callV (M2 := M_X7_answers) (As := [.int l1, .int 2, .int l1]) (st := []) (ci := 7) (Nat.le_of_ble_eq_true rfl) hW.1 rfl wM_X7_212 wI_X7_answers wS_X7_answers dX7_joiner_137 rfl ok_X7_answers ⟨(Nat.le_of_ble_eq_true rfl), (Nat.le_of_ble_eq_true rfl)⟩ (Nat.le_of_ble_eq_true rfl) (ct_X7_answers hW hw) (xqV.k (fun σ14 hw2 => ?_))
        obtain ⟨hW, hw⟩ := hw2
        refine x_goto 149 dX7_joiner_140 rfl ?_
        exact x_sub [0] rfl (xb_X7_joiner_149 hW hw)
    · replace hw := hw.1 hc11
      refine x_aload_n dX7_joiner_109 rfl 0 rfl ?_
      refine x_iload_n dX7_joiner_110 rfl 1 rfl ?_
      refine x_iconst dX7_joiner_111 cI_1 ?_
      refine x_aload_n dX7_joiner_112 rfl 0 rfl ?_
      refine x_get (ci := 7) (k := 8) (v := .ref (a0 + 8)) dX7_joiner_113 wF_X7_32 (Nat.le_of_ble_eq_true rfl) (Nat.le_of_ble_eq_true rfl) hW.1 (congrArg va_rf (w7r_8 hW)) ?_
      refine x_iload_n dX7_joiner_116 rfl 1 rfl ?_
      obtain ⟨hv15, hw⟩ := hw
      refine x_ialdZ dX7_joiner_117 (w7k_8 hW) (w7z_8 hW) hv15 ?_
      refine x_callV (M2 := M_X7_answers) (As := [.int l1, .int 1, .int (xh_a σ9 (a0 + 8) l1.toNatClampNeg)]) (st := []) (ci := 7) (Nat.le_of_ble_eq_true rfl) hW.1 rfl wM_X7_212 wI_X7_answers wS_X7_answers dX7_joiner_118 rfl ok_X7_answers ⟨(Nat.le_of_ble_eq_true rfl), (Nat.le_of_ble_eq_true rfl)⟩ (Nat.le_of_ble_eq_true rfl) (ct_X7_answers hW hw) (xqV.k (fun σ16 hw2 => ?_))
      obtain ⟨hW, hw⟩ := hw2
      refine x_goto 149 dX7_joiner_121 rfl ?_
      exact x_sub [0] rfl (xb_X7_joiner_149 hW hw)
  · replace hw := hw.1 hc10
    refine x_aload_n dX7_joiner_21 rfl 0 rfl ?_
    refine x_iload_n dX7_joiner_22 rfl 1 rfl ?_
    refine x_callV (M2 := M_X7_holds) (As := [.int l1]) (st := []) (ci := 7) (Nat.le_of_ble_eq_true rfl) hW.1 rfl wM_X7_251 wI_X7_holds wS_X7_holds dX7_joiner_23 rfl ok_X7_holds ⟨(Nat.le_of_ble_eq_true rfl), (Nat.le_of_ble_eq_true rfl)⟩ (Nat.le_of_ble_eq_true rfl) (ct_X7_holds hW hw) (xqV.k (fun σ17 hw2 => ?_))
    obtain ⟨hW, hw⟩ := hw2
    refine x_aload_n dX7_joiner_26 rfl 0 rfl ?_
    refine x_get (ci := 7) (k := 8) (v := .ref (a0 + 8)) dX7_joiner_27 wF_X7_32 (Nat.le_of_ble_eq_true rfl) (Nat.le_of_ble_eq_true rfl) hW.1 (congrArg va_rf (w7r_8 hW)) ?_
    refine x_iload_n dX7_joiner_30 rfl 1 rfl ?_
    obtain ⟨hv18, hw⟩ := hw
    refine x_ialdZ dX7_joiner_31 (w7k_8 hW) (w7z_8 hW) hv18 ?_
    refine x_aload_n dX7_joiner_32 rfl 0 rfl ?_
    refine x_get (ci := 7) (k := 3) (v := .ref (a0 + 3)) dX7_joiner_33 wF_X7_16 (Nat.le_of_ble_eq_true rfl) (Nat.le_of_ble_eq_true rfl) hW.1 (congrArg va_rf (w7r_3 hW)) ?_
    refine x_iload_n dX7_joiner_36 rfl 1 rfl ?_
    obtain ⟨hv19, hw⟩ := hw
    refine x_ialdZ dX7_joiner_37 (w7k_3 hW) (w7z_3 hW) hv19 ?_
    refine x_icmp_lt 149 dX7_joiner_38 rfl (fun hc20 => ?_) (fun hc20 => ?_)
    · replace hw := hw.1 hc20
      exact x_sub [0] rfl (xb_X7_joiner_149 hW hw)
    · replace hw := hw.2 hc20
      refine x_iconst dX7_joiner_41 cI_0 ?_
      refine x_istore_n [(2, .int 0), (0, .ref a0), (1, .int l1)] dX7_joiner_42 rfl (Nat.le_of_ble_eq_true rfl) rfl ?_
      refine x_iconst dX7_joiner_43 cI_0 ?_
      refine x_istore_n [(3, .int 0), (2, .int 0), (0, .ref a0), (1, .int l1)] dX7_joiner_44 rfl (Nat.le_of_ble_eq_true rfl) rfl ?_
      obtain ⟨m45, hw⟩ := hw
      exact x_sub [2, 3, 1, 0] rfl (xl_X7_joiner_45 m45 _ _ _ _ hW hw)
