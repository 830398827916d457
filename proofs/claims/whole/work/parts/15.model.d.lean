-- PromiseWireModel.comesToThing()V
def wb_X7_comesToThing_88 (Q : xS → Prop) (σ : xS) (a0 : Nat) : Prop := wp_X7_hears σ a0 (xh_I σ 502 a0) (fun σ1 => Q σ1)
set_option maxRecDepth 100000 in
set_option maxHeartbeats 4000000 in
theorem xb_X7_comesToThing_88 {Q : xS → Prop} {σ : xS} {a0 : Nat}  (hW : xw7 σ a0)  (hw : wb_X7_comesToThing_88 Q σ a0) : xX M_X7_comesToThing 88 [(0, .ref a0)] [] σ (xqV (fun σ2 => xw7 σ2 a0 ∧ Q σ2)) := by
  unfold wb_X7_comesToThing_88 at hw
  refine x_aload_n dX7_comesToThing_88 rfl 0 rfl ?_
  refine x_aload_n dX7_comesToThing_89 rfl 0 rfl ?_
  refine x_get (ci := 7) (k := 54) (v := .int (xh_I σ 502 a0)) dX7_comesToThing_90 wF_X7_309 (Nat.le_of_ble_eq_true rfl) (Nat.le_of_ble_eq_true rfl) hW.1 rfl ?_
  refine x_callV (M2 := M_X7_hears) (As := [.int (xh_I σ 502 a0)]) (st := []) (ci := 7) (Nat.le_of_ble_eq_true rfl) hW.1 rfl wM_X7_325 wI_X7_hears wS_X7_hears dX7_comesToThing_93 rfl ok_X7_hears ⟨(Nat.le_of_ble_eq_true rfl), (Nat.le_of_ble_eq_true rfl)⟩ (Nat.le_of_ble_eq_true rfl) (ct_X7_hears hW hw) (xqV.k (fun σ1 hw2 => ?_))
  obtain ⟨hW, hw⟩ := hw2
  exact x_vret dX7_comesToThing_96 rfl ⟨rfl, hW, hw⟩
def wb_X7_comesToThing_68 (Q : xS → Prop) (σ : xS) (a0 : Nat) (s1 : Int32) : Prop := ∀ σ2, σ2 = xs_I σ 497 a0 s1 → (((xh_I σ2 495 a0) < 0 → wb_X7_comesToThing_88 Q σ2 a0) ∧ (¬ (xh_I σ2 495 a0) < 0 → vp_in (xh_I σ2 495 a0) 100 ∧ ∀ σ5, σ5 = xs_a σ2 (a0 + 20) (xh_I σ2 495 a0).toNatClampNeg (-1) → (wb_X7_comesToThing_88 Q σ5 a0)))
set_option maxRecDepth 100000 in
set_option maxHeartbeats 4000000 in
theorem xb_X7_comesToThing_68 {Q : xS → Prop} {σ : xS} {a0 : Nat}  {s1 : Int32} (hW : xw7 σ a0)  (hw : wb_X7_comesToThing_68 Q σ a0 s1) : xX M_X7_comesToThing 68 [(0, .ref a0)] [.int s1, .ref a0] σ (xqV (fun σ2 => xw7 σ2 a0 ∧ Q σ2)) := by
  unfold wb_X7_comesToThing_68 at hw
  refine x_putIN (ci := 7) (k := 49) (f := 497) dX7_comesToThing_68 wF_X7_222 (Nat.le_of_ble_eq_true rfl) (Nat.le_of_ble_eq_true rfl) hW.1 (Or.inl rfl) rfl (Or.inl rfl) (fun σ2 hσ2 => ?_)
  replace hw := hw σ2 hσ2
  refine x_aload_n dX7_comesToThing_71 rfl 0 rfl ?_
  have hW := (xw7_I hσ2 hW)
  refine x_get (ci := 7) (k := 47) (v := .int (xh_I σ2 495 a0)) dX7_comesToThing_72 wF_X7_209 (Nat.le_of_ble_eq_true rfl) (Nat.le_of_ble_eq_true rfl) hW.1 rfl ?_
  refine x_if_lt 88 dX7_comesToThing_75 rfl (fun hc3 => ?_) (fun hc3 => ?_)
  · replace hw := hw.1 hc3
    exact x_sub [0] rfl (xb_X7_comesToThing_88 hW hw)
  · replace hw := hw.2 hc3
    refine x_aload_n dX7_comesToThing_78 rfl 0 rfl ?_
    refine x_get (ci := 7) (k := 21) (v := .ref (a0 + 20)) dX7_comesToThing_79 wF_X7_68 (Nat.le_of_ble_eq_true rfl) (Nat.le_of_ble_eq_true rfl) hW.1 (congrArg va_rf (w7r_20 hW)) ?_
    refine x_aload_n dX7_comesToThing_82 rfl 0 rfl ?_
    refine x_get (ci := 7) (k := 47) (v := .int (xh_I σ2 495 a0)) dX7_comesToThing_83 wF_X7_209 (Nat.le_of_ble_eq_true rfl) (Nat.le_of_ble_eq_true rfl) hW.1 rfl ?_
    refine x_iconst dX7_comesToThing_86 cI_m1 ?_
    obtain ⟨hv4, hw⟩ := hw
    refine x_iastN dX7_comesToThing_87 (w7k_20 hW) (w7z_20 hW) hv4 (fun σ5 hσ5 => ?_)
    replace hw := hw σ5 hσ5
    have hW := (xw7_a hσ5 hW)
    exact x_sub [0] rfl (xb_X7_comesToThing_88 hW hw)
def wb_X7_comesToThing_41 (Q : xS → Prop) (σ : xS) (a0 : Nat) (s1 : Int32) : Prop := ∀ σ6, σ6 = xs_I σ 496 a0 s1 → (((xh_I σ6 495 a0) < 0 → wb_X7_comesToThing_68 Q σ6 a0 (xh_I σ6 504 a0)) ∧ (¬ (xh_I σ6 495 a0) < 0 → vp_in (xh_I σ6 495 a0) 100 ∧ (wb_X7_comesToThing_68 Q σ6 a0 (xh_a σ6 (a0 + 18) (xh_I σ6 495 a0).toNatClampNeg))))
set_option maxRecDepth 100000 in
set_option maxHeartbeats 4000000 in
theorem xb_X7_comesToThing_41 {Q : xS → Prop} {σ : xS} {a0 : Nat}  {s1 : Int32} (hW : xw7 σ a0)  (hw : wb_X7_comesToThing_41 Q σ a0 s1) : xX M_X7_comesToThing 41 [(0, .ref a0)] [.int s1, .ref a0] σ (xqV (fun σ2 => xw7 σ2 a0 ∧ Q σ2)) := by
  unfold wb_X7_comesToThing_41 at hw
  refine x_putIN (ci := 7) (k := 48) (f := 496) dX7_comesToThing_41 wF_X7_219 (Nat.le_of_ble_eq_true rfl) (Nat.le_of_ble_eq_true rfl) hW.1 (Or.inl rfl) rfl (Or.inl rfl) (fun σ6 hσ6 => ?_)
  replace hw := hw σ6 hσ6
  refine x_aload_n dX7_comesToThing_44 rfl 0 rfl ?_
  refine x_aload_n dX7_comesToThing_45 rfl 0 rfl ?_
  have hW := (xw7_I hσ6 hW)
  refine x_get (ci := 7) (k := 47) (v := .int (xh_I σ6 495 a0)) dX7_comesToThing_46 wF_X7_209 (Nat.le_of_ble_eq_true rfl) (Nat.le_of_ble_eq_true rfl) hW.1 rfl ?_
  refine x_if_lt 64 dX7_comesToThing_49 rfl (fun hc7 => ?_) (fun hc7 => ?_)
  · replace hw := hw.1 hc7
    refine x_aload_n dX7_comesToThing_64 rfl 0 rfl ?_
    refine x_get (ci := 7) (k := 56) (v := .int (xh_I σ6 504 a0)) dX7_comesToThing_65 wF_X7_315 (Nat.le_of_ble_eq_true rfl) (Nat.le_of_ble_eq_true rfl) hW.1 rfl ?_
    exact x_sub [0] rfl (xb_X7_comesToThing_68 hW hw)
  · replace hw := hw.2 hc7
    refine x_aload_n dX7_comesToThing_52 rfl 0 rfl ?_
    refine x_get (ci := 7) (k := 19) (v := .ref (a0 + 18)) dX7_comesToThing_53 wF_X7_62 (Nat.le_of_ble_eq_true rfl) (Nat.le_of_ble_eq_true rfl) hW.1 (congrArg va_rf (w7r_18 hW)) ?_
    refine x_aload_n dX7_comesToThing_56 rfl 0 rfl ?_
    refine x_get (ci := 7) (k := 47) (v := .int (xh_I σ6 495 a0)) dX7_comesToThing_57 wF_X7_209 (Nat.le_of_ble_eq_true rfl) (Nat.le_of_ble_eq_true rfl) hW.1 rfl ?_
    obtain ⟨hv8, hw⟩ := hw
    refine x_ialdZ dX7_comesToThing_60 (w7k_18 hW) (w7z_18 hW) hv8 ?_
    refine x_goto 68 dX7_comesToThing_61 rfl ?_
    exact x_sub [0] rfl (xb_X7_comesToThing_68 hW hw)
def wb_X7_comesToThing_17 (Q : xS → Prop) (σ : xS) (a0 : Nat) (s1 : Int32) : Prop := ∀ σ9, σ9 = xs_I σ 495 a0 s1 → (((xh_I σ9 495 a0) < 0 → wb_X7_comesToThing_41 Q σ9 a0 2) ∧ (¬ (xh_I σ9 495 a0) < 0 → vp_in (xh_I σ9 495 a0) 100 ∧ (wb_X7_comesToThing_41 Q σ9 a0 (xh_a σ9 (a0 + 17) (xh_I σ9 495 a0).toNatClampNeg))))
set_option maxRecDepth 100000 in
set_option maxHeartbeats 4000000 in
theorem xb_X7_comesToThing_17 {Q : xS → Prop} {σ : xS} {a0 : Nat}  {s1 : Int32} (hW : xw7 σ a0)  (hw : wb_X7_comesToThing_17 Q σ a0 s1) : xX M_X7_comesToThing 17 [(0, .ref a0)] [.int s1, .ref a0] σ (xqV (fun σ2 => xw7 σ2 a0 ∧ Q σ2)) := by
  unfold wb_X7_comesToThing_17 at hw
  refine x_putIN (ci := 7) (k := 47) (f := 495) dX7_comesToThing_17 wF_X7_209 (Nat.le_of_ble_eq_true rfl) (Nat.le_of_ble_eq_true rfl) hW.1 (Or.inl rfl) rfl (Or.inl rfl) (fun σ9 hσ9 => ?_)
  replace hw := hw σ9 hσ9
  refine x_aload_n dX7_comesToThing_20 rfl 0 rfl ?_
  refine x_aload_n dX7_comesToThing_21 rfl 0 rfl ?_
  have hW := (xw7_I hσ9 hW)
  refine x_get (ci := 7) (k := 47) (v := .int (xh_I σ9 495 a0)) dX7_comesToThing_22 wF_X7_209 (Nat.le_of_ble_eq_true rfl) (Nat.le_of_ble_eq_true rfl) hW.1 rfl ?_
  refine x_if_lt 40 dX7_comesToThing_25 rfl (fun hc10 => ?_) (fun hc10 => ?_)
  · replace hw := hw.1 hc10
    refine x_iconst dX7_comesToThing_40 cI_2 ?_
    exact x_sub [0] rfl (xb_X7_comesToThing_41 hW hw)
  · replace hw := hw.2 hc10
    refine x_aload_n dX7_comesToThing_28 rfl 0 rfl ?_
    refine x_get (ci := 7) (k := 18) (v := .ref (a0 + 17)) dX7_comesToThing_29 wF_X7_59 (Nat.le_of_ble_eq_true rfl) (Nat.le_of_ble_eq_true rfl) hW.1 (congrArg va_rf (w7r_17 hW)) ?_
    refine x_aload_n dX7_comesToThing_32 rfl 0 rfl ?_
    refine x_get (ci := 7) (k := 47) (v := .int (xh_I σ9 495 a0)) dX7_comesToThing_33 wF_X7_209 (Nat.le_of_ble_eq_true rfl) (Nat.le_of_ble_eq_true rfl) hW.1 rfl ?_
    obtain ⟨hv11, hw⟩ := hw
    refine x_ialdZ dX7_comesToThing_36 (w7k_17 hW) (w7z_17 hW) hv11 ?_
    refine x_goto 41 dX7_comesToThing_37 rfl ?_
    exact x_sub [0] rfl (xb_X7_comesToThing_41 hW hw)
def wp_X7_comesToThing (σ : xS) (a0 : Nat) (Q : xS → Prop) : Prop := ((xh_I σ 498 a0) = 0 → wb_X7_comesToThing_17 Q σ a0 (xh_I σ 501 a0)) ∧ (¬ (xh_I σ 498 a0) = 0 → wb_X7_comesToThing_17 Q σ a0 (-9))
set_option maxRecDepth 100000 in
set_option maxHeartbeats 4000000 in
theorem ct_X7_comesToThing {σ : xS} {a0 : Nat}  {Q : xS → Prop} (hW : xw7 σ a0) (hw : wp_X7_comesToThing σ a0 Q) : xCt M_X7_comesToThing [.ref a0] σ (xqV (fun σ2 => xw7 σ2 a0 ∧ Q σ2)) := by
  refine xCt_ofL (lv := [(0, .ref a0)]) pn_X7 (Nat.le_of_ble_eq_true rfl) rfl ?_
  unfold wp_X7_comesToThing at hw
  refine x_aload_n dX7_comesToThing_0 rfl 0 rfl ?_
  refine x_aload_n dX7_comesToThing_1 rfl 0 rfl ?_
  refine x_get (ci := 7) (k := 50) (v := .int (xh_I σ 498 a0)) dX7_comesToThing_2 wF_X7_297 (Nat.le_of_ble_eq_true rfl) (Nat.le_of_ble_eq_true rfl) hW.1 rfl ?_
  refine x_if_ne 15 dX7_comesToThing_5 rfl (fun hc12 => ?_) (fun hc12 => ?_)
  · replace hw := hw.2 hc12
    refine x_bipush dX7_comesToThing_15 cB_m9 ?_
    exact x_sub [0] rfl (xb_X7_comesToThing_17 hW hw)
  · replace hw := hw.1 hc12
    refine x_aload_n dX7_comesToThing_8 rfl 0 rfl ?_
    refine x_get (ci := 7) (k := 53) (v := .int (xh_I σ 501 a0)) dX7_comesToThing_9 wF_X7_306 (Nat.le_of_ble_eq_true rfl) (Nat.le_of_ble_eq_true rfl) hW.1 rfl ?_
    refine x_goto 17 dX7_comesToThing_12 rfl ?_
    exact x_sub [0] rfl (xb_X7_comesToThing_17 hW hw)
-- PromiseWireModel.comesToPromise()V
def wb_X7_comesToPromise_79 (Q : xS → Prop) (σ : xS) (a0 : Nat) : Prop := Q σ
set_option maxRecDepth 100000 in
set_option maxHeartbeats 4000000 in
theorem xb_X7_comesToPromise_79 {Q : xS → Prop} {σ : xS} {a0 : Nat}  (hW : xw7 σ a0)  (hw : wb_X7_comesToPromise_79 Q σ a0) : xX M_X7_comesToPromise 79 [(0, .ref a0)] [] σ (xqV (fun σ2 => xw7 σ2 a0 ∧ Q σ2)) := by
  unfold wb_X7_comesToPromise_79 at hw
  exact x_vret dX7_comesToPromise_79 rfl ⟨rfl, hW, hw⟩
def wp_X7_comesToPromise (σ : xS) (a0 : Nat) (Q : xS → Prop) : Prop := vp_in (xh_I σ 503 a0) 100 ∧ (((xh_a σ (a0 + 11) (xh_I σ 503 a0).toNatClampNeg) = 0 → vp_in (xh_I σ 501 a0) 100 ∧ ∀ σ8, σ8 = xs_a σ (a0 + 16) (xh_I σ 501 a0).toNatClampNeg 2 → (vp_in (xh_I σ 501 a0) 100 ∧ ∀ σ10, σ10 = xs_a σ8 (a0 + 21) (xh_I σ 501 a0).toNatClampNeg (xh_I σ 503 a0) → (vp_in (xh_I σ 501 a0) 100 ∧ ∀ σ12, σ12 = xs_a σ10 (a0 + 22) (xh_I σ 501 a0).toNatClampNeg (xh_I σ10 472 a0) → (∀ σ13, σ13 = xs_I σ12 472 a0 ((xh_I σ12 472 a0) + 1) → (wb_X7_comesToPromise_79 Q σ13 a0))))) ∧ (¬ (xh_a σ (a0 + 11) (xh_I σ 503 a0).toNatClampNeg) = 0 → vp_in (xh_I σ 503 a0) 100 ∧ (vp_in (xh_I σ 503 a0) 100 ∧ (vp_in (xh_I σ 503 a0) 100 ∧ (wp_X7_goesOn σ a0 (xh_I σ 501 a0) (xh_a σ (a0 + 10) (xh_I σ 503 a0).toNatClampNeg) (xh_a σ (a0 + 11) (xh_I σ 503 a0).toNatClampNeg) (xh_a σ (a0 + 12) (xh_I σ 503 a0).toNatClampNeg) (fun σ6 => wb_X7_comesToPromise_79 Q σ6 a0))))))
set_option maxRecDepth 100000 in
set_option maxHeartbeats 4000000 in
theorem ct_X7_comesToPromise {σ : xS} {a0 : Nat}  {Q : xS → Prop} (hW : xw7 σ a0) (hw : wp_X7_comesToPromise σ a0 Q) : xCt M_X7_comesToPromise [.ref a0] σ (xqV (fun σ2 => xw7 σ2 a0 ∧ Q σ2)) := by
  refine xCt_ofL (lv := [(0, .ref a0)]) pn_X7 (Nat.le_of_ble_eq_true rfl) rfl ?_
  unfold wp_X7_comesToPromise at hw
  refine x_aload_n dX7_comesToPromise_0 rfl 0 rfl ?_
  refine x_get (ci := 7) (k := 53) (v := .int (xh_I σ 501 a0)) dX7_comesToPromise_1 wF_X7_306 (Nat.le_of_ble_eq_true rfl) (Nat.le_of_ble_eq_true rfl) hW.1 rfl ?_
  refine x_istore_n [(1, .int (xh_I σ 501 a0)), (0, .ref a0)] dX7_comesToPromise_4 rfl (Nat.le_of_ble_eq_true rfl) rfl ?_
  refine x_aload_n dX7_comesToPromise_5 rfl 1 rfl ?_
  refine x_get (ci := 7) (k := 55) (v := .int (xh_I σ 503 a0)) dX7_comesToPromise_6 wF_X7_312 (Nat.le_of_ble_eq_true rfl) (Nat.le_of_ble_eq_true rfl) hW.1 rfl ?_
  refine x_istore_n [(2, .int (xh_I σ 503 a0)), (1, .int (xh_I σ 501 a0)), (0, .ref a0)] dX7_comesToPromise_9 rfl (Nat.le_of_ble_eq_true rfl) rfl ?_
  refine x_aload_n dX7_comesToPromise_10 rfl 2 rfl ?_
  refine x_get (ci := 7) (k := 12) (v := .ref (a0 + 11)) dX7_comesToPromise_11 wF_X7_41 (Nat.le_of_ble_eq_true rfl) (Nat.le_of_ble_eq_true rfl) hW.1 (congrArg va_rf (w7r_11 hW)) ?_
  refine x_iload_n dX7_comesToPromise_14 rfl 0 rfl ?_
  obtain ⟨hv1, hw⟩ := hw
  refine x_ialdZ dX7_comesToPromise_15 (w7k_11 hW) (w7z_11 hW) hv1 ?_
  refine x_if_ne 56 dX7_comesToPromise_16 rfl (fun hc2 => ?_) (fun hc2 => ?_)
  · replace hw := hw.2 hc2
    refine x_aload_n dX7_comesToPromise_56 rfl 2 rfl ?_
    refine x_iload_n dX7_comesToPromise_57 rfl 1 rfl ?_
    refine x_aload_n dX7_comesToPromise_58 rfl 2 rfl ?_
    refine x_get (ci := 7) (k := 11) (v := .ref (a0 + 10)) dX7_comesToPromise_59 wF_X7_38 (Nat.le_of_ble_eq_true rfl) (Nat.le_of_ble_eq_true rfl) hW.1 (congrArg va_rf (w7r_10 hW)) ?_
    refine x_iload_n dX7_comesToPromise_62 rfl 0 rfl ?_
    obtain ⟨hv3, hw⟩ := hw
    refine x_ialdZ dX7_comesToPromise_63 (w7k_10 hW) (w7z_10 hW) hv3 ?_
    refine x_aload_n dX7_comesToPromise_64 rfl 2 rfl ?_
    refine x_get (ci := 7) (k := 12) (v := .ref (a0 + 11)) dX7_comesToPromise_65 wF_X7_41 (Nat.le_of_ble_eq_true rfl) (Nat.le_of_ble_eq_true rfl) hW.1 (congrArg va_rf (w7r_11 hW)) ?_
    refine x_iload_n dX7_comesToPromise_68 rfl 0 rfl ?_
    obtain ⟨hv4, hw⟩ := hw
    refine x_ialdZ dX7_comesToPromise_69 (w7k_11 hW) (w7z_11 hW) hv4 ?_
    refine x_aload_n dX7_comesToPromise_70 rfl 2 rfl ?_
    refine x_get (ci := 7) (k := 13) (v := .ref (a0 + 12)) dX7_comesToPromise_71 wF_X7_44 (Nat.le_of_ble_eq_true rfl) (Nat.le_of_ble_eq_true rfl) hW.1 (congrArg va_rf (w7r_12 hW)) ?_
    refine x_iload_n dX7_comesToPromise_74 rfl 0 rfl ?_
    obtain ⟨hv5, hw⟩ := hw
    refine x_ialdZ dX7_comesToPromise_75 (w7k_12 hW) (w7z_12 hW) hv5 ?_
    refine x_callV (M2 := M_X7_goesOn) (As := [.int (xh_I σ 501 a0), .int (xh_a σ (a0 + 10) (xh_I σ 503 a0).toNatClampNeg), .int (xh_a σ (a0 + 11) (xh_I σ 503 a0).toNatClampNeg), .int (xh_a σ (a0 + 12) (xh_I σ 503 a0).toNatClampNeg)]) (st := []) (ci := 7) (Nat.le_of_ble_eq_true rfl) hW.1 rfl wM_X7_203 wI_X7_goesOn wS_X7_goesOn dX7_comesToPromise_76 rfl ok_X7_goesOn ⟨(Nat.le_of_ble_eq_true rfl), (Nat.le_of_ble_eq_true rfl)⟩ (Nat.le_of_ble_eq_true rfl) (ct_X7_goesOn hW hw) (xqV.k (fun σ6 hw2 => ?_))
    obtain ⟨hW, hw⟩ := hw2
    exact x_sub [2] rfl (xb_X7_comesToPromise_79 hW hw)
  · replace hw := hw.1 hc2
    refine x_aload_n dX7_comesToPromise_19 rfl 2 rfl ?_
    refine x_get (ci := 7) (k := 17) (v := .ref (a0 + 16)) dX7_comesToPromise_20 wF_X7_56 (Nat.le_of_ble_eq_true rfl) (Nat.le_of_ble_eq_true rfl) hW.1 (congrArg va_rf (w7r_16 hW)) ?_
    refine x_iload_n dX7_comesToPromise_23 rfl 1 rfl ?_
    refine x_iconst dX7_comesToPromise_24 cI_2 ?_
    obtain ⟨hv7, hw⟩ := hw
    refine x_iastN dX7_comesToPromise_25 (w7k_16 hW) (w7z_16 hW) hv7 (fun σ8 hσ8 => ?_)
    replace hw := hw σ8 hσ8
    refine x_aload_n dX7_comesToPromise_26 rfl 2 rfl ?_
    have hW := (xw7_a hσ8 hW)
    refine x_get (ci := 7) (k := 22) (v := .ref (a0 + 21)) dX7_comesToPromise_27 wF_X7_71 (Nat.le_of_ble_eq_true rfl) (Nat.le_of_ble_eq_true rfl) hW.1 (congrArg va_rf (w7r_21 hW)) ?_
    refine x_iload_n dX7_comesToPromise_30 rfl 1 rfl ?_
    refine x_iload_n dX7_comesToPromise_31 rfl 0 rfl ?_
    obtain ⟨hv9, hw⟩ := hw
    refine x_iastN dX7_comesToPromise_32 (w7k_21 hW) (w7z_21 hW) hv9 (fun σ10 hσ10 => ?_)
    replace hw := hw σ10 hσ10
    refine x_aload_n dX7_comesToPromise_33 rfl 2 rfl ?_
    have hW := (xw7_a hσ10 hW)
    refine x_get (ci := 7) (k := 23) (v := .ref (a0 + 22)) dX7_comesToPromise_34 wF_X7_74 (Nat.le_of_ble_eq_true rfl) (Nat.le_of_ble_eq_true rfl) hW.1 (congrArg va_rf (w7r_22 hW)) ?_
    refine x_iload_n dX7_comesToPromise_37 rfl 1 rfl ?_
    refine x_aload_n dX7_comesToPromise_38 rfl 2 rfl ?_
    refine x_get (ci := 7) (k := 24) (v := .int (xh_I σ10 472 a0)) dX7_comesToPromise_39 wF_X7_246 (Nat.le_of_ble_eq_true rfl) (Nat.le_of_ble_eq_true rfl) hW.1 rfl ?_
    obtain ⟨hv11, hw⟩ := hw
    refine x_iastN dX7_comesToPromise_42 (w7k_22 hW) (w7z_22 hW) hv11 (fun σ12 hσ12 => ?_)
    replace hw := hw σ12 hσ12
    refine x_aload_n dX7_comesToPromise_43 rfl 2 rfl ?_
    refine x_dup dX7_comesToPromise_44 rfl ?_
    have hW := (xw7_a hσ12 hW)
    refine x_get (ci := 7) (k := 24) (v := .int (xh_I σ12 472 a0)) dX7_comesToPromise_45 wF_X7_246 (Nat.le_of_ble_eq_true rfl) (Nat.le_of_ble_eq_true rfl) hW.1 rfl ?_
    refine x_iconst dX7_comesToPromise_48 cI_1 ?_
    refine x_iadd dX7_comesToPromise_49 ?_
    refine x_putIN (ci := 7) (k := 24) (f := 472) dX7_comesToPromise_50 wF_X7_246 (Nat.le_of_ble_eq_true rfl) (Nat.le_of_ble_eq_true rfl) hW.1 (Or.inl rfl) rfl (Or.inl rfl) (fun σ13 hσ13 => ?_)
    replace hw := hw σ13 hσ13
    refine x_goto 79 dX7_comesToPromise_53 rfl ?_
    have hW := (xw7_I hσ13 hW)
    exact x_sub [2] rfl (xb_X7_comesToPromise_79 hW hw)
-- PromiseWireModel.delivers(I)I
def wb_X7_delivers_54 (Q : Int32 → xS → Prop) (σ : xS) (a0 : Nat) : Prop := wp_X7_doesAll σ a0 (fun σ1 => Q (xh_I σ 498 a0) σ1)
set_option maxRecDepth 100000 in
set_option maxHeartbeats 4000000 in
theorem xb_X7_delivers_54 {Q : Int32 → xS → Prop} {σ : xS} {a0 : Nat}  (hW : xw7 σ a0)  (hw : wb_X7_delivers_54 Q σ a0) : xX M_X7_delivers 54 [(0, .ref a0)] [] σ (xqI (fun r σ2 => xw7 σ2 a0 ∧ Q r σ2)) := by
  unfold wb_X7_delivers_54 at hw
  refine x_aload_n dX7_delivers_54 rfl 0 rfl ?_
  refine x_get (ci := 7) (k := 50) (v := .int (xh_I σ 498 a0)) dX7_delivers_55 wF_X7_297 (Nat.le_of_ble_eq_true rfl) (Nat.le_of_ble_eq_true rfl) hW.1 rfl ?_
  refine x_istore_n [(2, .int (xh_I σ 498 a0)), (0, .ref a0)] dX7_delivers_58 rfl (Nat.le_of_ble_eq_true rfl) rfl ?_
  refine x_aload_n dX7_delivers_59 rfl 1 rfl ?_
  refine x_callV (M2 := M_X7_doesAll) (As := []) (st := []) (ci := 7) (Nat.le_of_ble_eq_true rfl) hW.1 rfl wM_X7_277 wI_X7_doesAll wS_X7_doesAll dX7_delivers_60 rfl ok_X7_doesAll ⟨(Nat.le_of_ble_eq_true rfl), (Nat.le_of_ble_eq_true rfl)⟩ (Nat.le_of_ble_eq_true rfl) (ct_X7_doesAll hW hw) (xqV.k (fun σ1 hw2 => ?_))
  obtain ⟨hW, hw⟩ := hw2
  refine x_iload_n dX7_delivers_63 rfl 0 rfl ?_
  exact x_iret dX7_delivers_64 rfl ⟨(xh_I σ 498 a0), rfl, hW, hw⟩
def wp_X7_delivers (σ : xS) (a0 : Nat) (l1 : Int32) (Q : Int32 → xS → Prop) : Prop := wp_X7_takesOut σ a0 l1 (fun σ2 => ((xh_I σ2 498 a0) = 1 → wp_X7_comesBack σ2 a0 (xh_I σ2 501 a0) (xh_I σ2 504 a0) (xh_I σ2 505 a0) (xh_I σ2 506 a0) (fun σ7 => wb_X7_delivers_54 Q σ7 a0)) ∧ (¬ (xh_I σ2 498 a0) = 1 → ((xh_I σ2 502 a0) < 0 → wp_X7_comesToPromise σ2 a0 (fun σ5 => wb_X7_delivers_54 Q σ5 a0)) ∧ (¬ (xh_I σ2 502 a0) < 0 → wp_X7_comesToThing σ2 a0 (fun σ6 => wb_X7_delivers_54 Q σ6 a0))))
set_option maxRecDepth 100000 in
set_option maxHeartbeats 4000000 in
theorem ct_X7_delivers {σ : xS} {a0 : Nat}  {l1 : Int32} {Q : Int32 → xS → Prop} (hW : xw7 σ a0) (hw : wp_X7_delivers σ a0 l1 Q) : xCt M_X7_delivers [.ref a0, .int l1] σ (xqI (fun r σ2 => xw7 σ2 a0 ∧ Q r σ2)) := by
  refine xCt_ofL (lv := [(0, .ref a0), (1, .int l1)]) pn_X7 (Nat.le_of_ble_eq_true rfl) rfl ?_
  unfold wp_X7_delivers at hw
  refine x_aload_n dX7_delivers_0 rfl 0 rfl ?_
  refine x_iload_n dX7_delivers_1 rfl 1 rfl ?_
  refine x_callV (M2 := M_X7_takesOut) (As := [.int l1]) (st := []) (ci := 7) (Nat.le_of_ble_eq_true rfl) hW.1 rfl wM_X7_328 wI_X7_takesOut wS_X7_takesOut dX7_delivers_2 rfl ok_X7_takesOut ⟨(Nat.le_of_ble_eq_true rfl), (Nat.le_of_ble_eq_true rfl)⟩ (Nat.le_of_ble_eq_true rfl) (ct_X7_takesOut hW hw) (xqV.k (fun σ2 hw2 => ?_))
  obtain ⟨hW, hw⟩ := hw2
  refine x_aload_n dX7_delivers_5 rfl 0 rfl ?_
  refine x_get (ci := 7) (k := 50) (v := .int (xh_I σ2 498 a0)) dX7_delivers_6 wF_X7_297 (Nat.le_of_ble_eq_true rfl) (Nat.le_of_ble_eq_true rfl) hW.1 rfl ?_
  refine x_iconst dX7_delivers_9 cI_1 ?_
  refine x_icmp_ne 36 dX7_delivers_10 rfl (fun hc3 => ?_) (fun hc3 => ?_)
  · replace hw := hw.2 hc3
    refine x_aload_n dX7_delivers_36 rfl 0 rfl ?_
    refine x_get (ci := 7) (k := 54) (v := .int (xh_I σ2 502 a0)) dX7_delivers_37 wF_X7_309 (Nat.le_of_ble_eq_true rfl) (Nat.le_of_ble_eq_true rfl) hW.1 rfl ?_
    refine x_if_lt 50 dX7_delivers_40 rfl (fun hc4 => ?_) (fun hc4 => ?_)
    · replace hw := hw.1 hc4
      refine x_aload_n dX7_delivers_50 rfl 0 rfl ?_
      refine x_callV (M2 := M_X7_comesToPromise) (As := []) (st := []) (ci := 7) (Nat.le_of_ble_eq_true rfl) hW.1 rfl wM_X7_334 wI_X7_comesToPromise wS_X7_comesToPromise dX7_delivers_51 rfl ok_X7_comesToPromise ⟨(Nat.le_of_ble_eq_true rfl), (Nat.le_of_ble_eq_true rfl)⟩ (Nat.le_of_ble_eq_true rfl) (ct_X7_comesToPromise hW hw) (xqV.k (fun σ5 hw2 => ?_))
      obtain ⟨hW, hw⟩ := hw2
      exact x_sub [0] rfl (xb_X7_delivers_54 hW hw)
    · replace hw := hw.2 hc4
      refine x_aload_n dX7_delivers_43 rfl 0 rfl ?_
      refine x_callV (M2 := M_X7_comesToThing) (As := []) (st := []) (ci := 7) (Nat.le_of_ble_eq_true rfl) hW.1 rfl wM_X7_331 wI_X7_comesToThing wS_X7_comesToThing dX7_delivers_44 rfl ok_X7_comesToThing ⟨(Nat.le_of_ble_eq_true rfl), (Nat.le_of_ble_eq_true rfl)⟩ (Nat.le_of_ble_eq_true rfl) (ct_X7_comesToThing hW hw) (xqV.k (fun σ6 hw2 => ?_))
      obtain ⟨hW, hw⟩ := hw2
      refine x_goto 54 dX7_delivers_47 rfl ?_
      exact x_sub [0] rfl (xb_X7_delivers_54 hW hw)
  · replace hw := hw.1 hc3
    refine x_aload_n dX7_delivers_13 rfl 0 rfl ?_
    refine x_aload_n dX7_delivers_14 rfl 0 rfl ?_
    refine x_get (ci := 7) (k := 53) (v := .int (xh_I σ2 501 a0)) dX7_delivers_15 wF_X7_306 (Nat.le_of_ble_eq_true rfl) (Nat.le_of_ble_eq_true rfl) hW.1 rfl ?_
    refine x_aload_n dX7_delivers_18 rfl 0 rfl ?_
    refine x_get (ci := 7) (k := 56) (v := .int (xh_I σ2 504 a0)) dX7_delivers_19 wF_X7_315 (Nat.le_of_ble_eq_true rfl) (Nat.le_of_ble_eq_true rfl) hW.1 rfl ?_
    refine x_aload_n dX7_delivers_22 rfl 0 rfl ?_
    refine x_get (ci := 7) (k := 57) (v := .int (xh_I σ2 505 a0)) dX7_delivers_23 wF_X7_318 (Nat.le_of_ble_eq_true rfl) (Nat.le_of_ble_eq_true rfl) hW.1 rfl ?_
    refine x_aload_n dX7_delivers_26 rfl 0 rfl ?_
    refine x_get (ci := 7) (k := 58) (v := .int (xh_I σ2 506 a0)) dX7_delivers_27 wF_X7_321 (Nat.le_of_ble_eq_true rfl) (Nat.le_of_ble_eq_true rfl) hW.1 rfl ?_
    refine x_callV (M2 := M_X7_comesBack) (As := [.int (xh_I σ2 501 a0), .int (xh_I σ2 504 a0), .int (xh_I σ2 505 a0), .int (xh_I σ2 506 a0)]) (st := []) (ci := 7) (Nat.le_of_ble_eq_true rfl) hW.1 rfl wM_X7_177 wI_X7_comesBack wS_X7_comesBack dX7_delivers_30 rfl ok_X7_comesBack ⟨(Nat.le_of_ble_eq_true rfl), (Nat.le_of_ble_eq_true rfl)⟩ (Nat.le_of_ble_eq_true rfl) (ct_X7_comesBack hW hw) (xqV.k (fun σ7 hw2 => ?_))
    obtain ⟨hW, hw⟩ := hw2
    refine x_goto 54 dX7_delivers_33 rfl ?_
    exact x_sub [0] rfl (xb_X7_delivers_54 hW hw)
-- PromiseWireModel.areHouses(II)Z
def wb_X7_areHouses_23 (Q : Int32 → Prop) (σ : xS) (s0 : Int32) : Prop := (s0 = 0 ∨ s0 = 1) ∧ Q s0
set_option maxRecDepth 100000 in
set_option maxHeartbeats 4000000 in
theorem xb_X7_areHouses_23 {Q : Int32 → Prop} {σ : xS}  {s0 : Int32}  (hw : wb_X7_areHouses_23 Q σ s0) : xX M_X7_areHouses 23 [] [.int s0] σ (xqI (fun r σ2 => σ = σ2 ∧ Q r )) := by
  unfold wb_X7_areHouses_23 at hw
  obtain ⟨hz1, hw⟩ := hw
  exact x_zret dX7_areHouses_23 rfl hz1 ⟨s0, rfl, rfl, hw⟩
def wb_X7_areHouses_22 (Q : Int32 → Prop) (σ : xS) : Prop := wb_X7_areHouses_23 Q σ 0
set_option maxRecDepth 100000 in
set_option maxHeartbeats 4000000 in
theorem xb_X7_areHouses_22 {Q : Int32 → Prop} {σ : xS}   (hw : wb_X7_areHouses_22 Q σ) : xX M_X7_areHouses 22 [] [] σ (xqI (fun r σ2 => σ = σ2 ∧ Q r )) := by
  unfold wb_X7_areHouses_22 at hw
  refine x_iconst dX7_areHouses_22 cI_0 ?_
  exact x_sub [] rfl (xb_X7_areHouses_23 hw)
def wp_X7_areHouses (σ : xS) (l0 : Int32) (l1 : Int32) (Q : Int32 → Prop) : Prop := wp_X7_in σ l0 0 3 (fun x2 => (x2 = 0 → wb_X7_areHouses_22 Q σ) ∧ (¬ x2 = 0 → wp_X7_in σ l1 0 3 (fun x5 => (x5 = 0 → wb_X7_areHouses_22 Q σ) ∧ (¬ x5 = 0 → wb_X7_areHouses_23 Q σ 1))))
set_option maxRecDepth 100000 in
set_option maxHeartbeats 4000000 in
theorem ct_X7_areHouses {σ : xS}  {l0 : Int32} {l1 : Int32} {Q : Int32 → Prop} (hw : wp_X7_areHouses σ l0 l1 Q) : xCt M_X7_areHouses [.int l0, .int l1] σ (xqI (fun r σ2 => σ = σ2 ∧ Q r )) := by
  refine xCt_ofL (lv := [(0, .int l0), (1, .int l1)]) pn_X7 (Nat.le_of_ble_eq_true rfl) rfl ?_
  unfold wp_X7_areHouses at hw
  refine x_iload_n dX7_areHouses_0 rfl 0 rfl ?_
  refine x_iconst dX7_areHouses_1 cI_0 ?_
  refine x_iconst dX7_areHouses_2 cI_3 ?_
  refine x_callS (M2 := M_X7_in) (As := [.int l0, .int 0, .int 3]) (st := []) wM_X7_132 wZ_X7_in dX7_areHouses_3 rfl ok_X7_in ⟨(Nat.le_of_ble_eq_true rfl), (Nat.le_of_ble_eq_true rfl)⟩ (Nat.le_of_ble_eq_true rfl) (ct_X7_in hw) (xqI.k (fun x2 τ3 hw2 => ?_))
  obtain ⟨he, hw⟩ := hw2
  subst he
  refine x_if_eq 22 dX7_areHouses_6 rfl (fun hc4 => ?_) (fun hc4 => ?_)
  · replace hw := hw.1 hc4
    exact x_sub [] rfl (xb_X7_areHouses_22 hw)
  · replace hw := hw.2 hc4
    refine x_iload_n dX7_areHouses_9 rfl 1 rfl ?_
    refine x_iconst dX7_areHouses_10 cI_0 ?_
    refine x_iconst dX7_areHouses_11 cI_3 ?_
    refine x_callS (M2 := M_X7_in) (As := [.int l1, .int 0, .int 3]) (st := []) wM_X7_132 wZ_X7_in dX7_areHouses_12 rfl ok_X7_in ⟨(Nat.le_of_ble_eq_true rfl), (Nat.le_of_ble_eq_true rfl)⟩ (Nat.le_of_ble_eq_true rfl) (ct_X7_in hw) (xqI.k (fun x5 τ6 hw2 => ?_))
    obtain ⟨he, hw⟩ := hw2
    subst he
    refine x_if_eq 22 dX7_areHouses_15 rfl (fun hc7 => ?_) (fun hc7 => ?_)
    · replace hw := hw.1 hc7
      exact x_sub [] rfl (xb_X7_areHouses_22 hw)
    · replace hw := hw.2 hc7
      refine x_iconst dX7_areHouses_18 cI_1 ?_
      refine x_goto 23 dX7_areHouses_19 rfl ?_
      exact x_sub [] rfl (xb_X7_areHouses_23 hw)
-- PromiseWireModel.deliver(II)I
def wb_X7_deliver_35 (Q : Int32 → xS → Prop) (σ : xS) (a0 : Nat) (s0 : Int32) : Prop := Q s0 σ
set_option maxRecDepth 100000 in
set_option maxHeartbeats 4000000 in
theorem xb_X7_deliver_35 {Q : Int32 → xS → Prop} {σ : xS} {a0 : Nat}  {s0 : Int32} (hW : xw7 σ a0)  (hw : wb_X7_deliver_35 Q σ a0 s0) : xX M_X7_deliver 35 [(0, .ref a0)] [.int s0] σ (xqI (fun r σ2 => xw7 σ2 a0 ∧ Q r σ2)) := by
  unfold wb_X7_deliver_35 at hw
  exact x_iret dX7_deliver_35 rfl ⟨s0, rfl, hW, hw⟩
def wp_X7_deliver (σ : xS) (a0 : Nat) (l1 : Int32) (l2 : Int32) (Q : Int32 → xS → Prop) : Prop := wp_X7_areHouses σ l1 l2 (fun x1 => (x1 = 0 → Q (-1) σ) ∧ (¬ x1 = 0 → wp_X7_firstLetter σ a0 l1 l2 (fun x4 => ((xh_I σ 478 a0) ≤ x4 → wb_X7_deliver_35 Q σ a0 (-9)) ∧ (¬ (xh_I σ 478 a0) ≤ x4 → wp_X7_delivers σ a0 x4 (fun x7 σ8 => wb_X7_deliver_35 Q σ8 a0 x7)))))
set_option maxRecDepth 100000 in
set_option maxHeartbeats 4000000 in
theorem ct_X7_deliver {σ : xS} {a0 : Nat}  {l1 : Int32} {l2 : Int32} {Q : Int32 → xS → Prop} (hW : xw7 σ a0) (hw : wp_X7_deliver σ a0 l1 l2 Q) : xCt M_X7_deliver [.ref a0, .int l1, .int l2] σ (xqI (fun r σ2 => xw7 σ2 a0 ∧ Q r σ2)) := by
  refine xCt_ofL (lv := [(0, .ref a0), (1, .int l1), (2, .int l2)]) pn_X7 (Nat.le_of_ble_eq_true rfl) rfl ?_
  unfold wp_X7_deliver at hw
  refine x_iload_n dX7_deliver_0 rfl 1 rfl ?_
  refine x_iload_n dX7_deliver_1 rfl 2 rfl ?_
  refine x_callS (M2 := M_X7_areHouses) (As := [.int l1, .int l2]) (st := []) wM_X7_337 wZ_X7_areHouses dX7_deliver_2 rfl ok_X7_areHouses ⟨(Nat.le_of_ble_eq_true rfl), (Nat.le_of_ble_eq_true rfl)⟩ (Nat.le_of_ble_eq_true rfl) (ct_X7_areHouses hw) (xqI.k (fun x1 τ2 hw2 => ?_))
  obtain ⟨he, hw⟩ := hw2
  subst he
  refine x_if_ne 10 dX7_deliver_5 rfl (fun hc3 => ?_) (fun hc3 => ?_)
  · replace hw := hw.2 hc3
    refine x_aload_n dX7_deliver_10 rfl 0 rfl ?_
    refine x_iload_n dX7_deliver_11 rfl 1 rfl ?_
    refine x_iload_n dX7_deliver_12 rfl 2 rfl ?_
    refine x_callV (M2 := M_X7_firstLetter) (As := [.int l1, .int l2]) (st := []) (ci := 7) (Nat.le_of_ble_eq_true rfl) hW.1 rfl wM_X7_340 wI_X7_firstLetter wS_X7_firstLetter dX7_deliver_13 rfl ok_X7_firstLetter ⟨(Nat.le_of_ble_eq_true rfl), (Nat.le_of_ble_eq_true rfl)⟩ (Nat.le_of_ble_eq_true rfl) (ct_X7_firstLetter hW hw) (xqI.k (fun x4 τ5 hw2 => ?_))
    obtain ⟨he, hw⟩ := hw2
    subst he
    refine x_istore_n [(3, .int x4), (0, .ref a0), (1, .int l1), (2, .int l2)] dX7_deliver_16 rfl (Nat.le_of_ble_eq_true rfl) rfl ?_
    refine x_iload_n dX7_deliver_17 rfl 0 rfl ?_
    refine x_aload_n dX7_deliver_18 rfl 1 rfl ?_
    refine x_get (ci := 7) (k := 30) (v := .int (xh_I σ 478 a0)) dX7_deliver_19 wF_X7_147 (Nat.le_of_ble_eq_true rfl) (Nat.le_of_ble_eq_true rfl) hW.1 rfl ?_
    refine x_icmp_ge 33 dX7_deliver_22 rfl (fun hc6 => ?_) (fun hc6 => ?_)
    · replace hw := hw.1 hc6
      refine x_bipush dX7_deliver_33 cB_m9 ?_
      exact x_sub [1] rfl (xb_X7_deliver_35 hW hw)
    · replace hw := hw.2 hc6
      refine x_aload_n dX7_deliver_25 rfl 1 rfl ?_
      refine x_iload_n dX7_deliver_26 rfl 0 rfl ?_
      refine x_callV (M2 := M_X7_delivers) (As := [.int x4]) (st := []) (ci := 7) (Nat.le_of_ble_eq_true rfl) hW.1 rfl wM_X7_343 wI_X7_delivers wS_X7_delivers dX7_deliver_27 rfl ok_X7_delivers ⟨(Nat.le_of_ble_eq_true rfl), (Nat.le_of_ble_eq_true rfl)⟩ (Nat.le_of_ble_eq_true rfl) (ct_X7_delivers hW hw) (xqI.k (fun x7 σ8 hw2 => ?_))
      obtain ⟨hW, hw⟩ := hw2
      refine x_goto 35 dX7_deliver_30 rfl ?_
      exact x_sub [1] rfl (xb_X7_deliver_35 hW hw)
  · replace hw := hw.1 hc3
    refine x_iconst dX7_deliver_8 cI_m1 ?_
    exact x_iret dX7_deliver_9 rfl ⟨(-1), rfl, hW, hw⟩
-- PromiseWireModel.flow(I)I
def wb_X7_flow_101 (Q : Int32 → xS → Prop) (σ : xS) (a0 : Nat) (l2 : Int32) : Prop := Q l2 σ
set_option maxRecDepth 100000 in
set_option maxHeartbeats 4000000 in
theorem xb_X7_flow_101 {Q : Int32 → xS → Prop} {σ : xS} {a0 : Nat}  {l2 : Int32} (hW : xw7 σ a0)  (hw : wb_X7_flow_101 Q σ a0 l2) : xX M_X7_flow 101 [(0, .ref a0), (2, .int l2)] [] σ (xqI (fun r σ2 => xw7 σ2 a0 ∧ Q r σ2)) := by
  unfold wb_X7_flow_101 at hw
  refine x_iload_n dX7_flow_101 rfl 1 rfl ?_
  exact x_iret dX7_flow_102 rfl ⟨l2, rfl, hW, hw⟩
def wb_X7_flow_81 (Q : Int32 → xS → Prop) (K14 : xS → Int32 → Int32 → Prop) (K31 : xS → Int32 → Int32 → Int32 → Int32 → Prop) (σ : xS) (a0 : Nat) (l1 : Int32) (l2 : Int32) (l4 : Int32) (s0 : Int32) : Prop := K31 σ l1 l2 s0 (l4 + 1)
set_option maxRecDepth 100000 in
set_option maxHeartbeats 4000000 in
theorem xb_X7_flow_81 {Q : Int32 → xS → Prop} {K14 : xS → Int32 → Int32 → Prop} {K31 : xS → Int32 → Int32 → Int32 → Int32 → Prop} {σ : xS} {a0 : Nat}  {l1 : Int32} {l2 : Int32} {l4 : Int32} {s0 : Int32} (hW : xw7 σ a0)  (hK14 : ∀ (σ : xS) (l1 : Int32) (l2 : Int32), xw7 σ a0 → K14 σ l1 l2 → xX M_X7_flow 14 [(0, .ref a0), (1, .int l1), (2, .int l2)] [] σ (xqI (fun r σ2 => xw7 σ2 a0 ∧ Q r σ2))) (hK31 : ∀ (σ : xS) (l1 : Int32) (l2 : Int32) (l3 : Int32) (l4 : Int32), xw7 σ a0 → K31 σ l1 l2 l3 l4 → xX M_X7_flow 31 [(0, .ref a0), (1, .int l1), (2, .int l2), (3, .int l3), (4, .int l4)] [] σ (xqI (fun r σ2 => xw7 σ2 a0 ∧ Q r σ2))) (hw : wb_X7_flow_81 Q K14 K31 σ a0 l1 l2 l4 s0) : xX M_X7_flow 81 [(0, .ref a0), (1, .int l1), (2, .int l2), (4, .int l4)] [.int s0] σ (xqI (fun r σ2 => xw7 σ2 a0 ∧ Q r σ2)) := by
  unfold wb_X7_flow_81 at hw
  refine x_istore_n [(3, .int s0), (0, .ref a0), (1, .int l1), (2, .int l2), (4, .int l4)] dX7_flow_81 rfl (Nat.le_of_ble_eq_true rfl) rfl ?_
  refine x_iinc [(4, .int (l4 + 1)), (3, .int s0), (0, .ref a0), (1, .int l1), (2, .int l2)] dX7_flow_82 4 rfl (congrArg _ cI_1) (Nat.le_of_ble_eq_true rfl) rfl ?_
  refine x_goto 31 dX7_flow_85 rfl ?_
  exact x_sub [2, 3, 4, 1, 0] rfl (hK31 _ _ _ _ _ hW hw)
def wb_X7_flow_31 (Q : Int32 → xS → Prop) (K14 : xS → Int32 → Int32 → Prop) (a0 : Nat) : Nat → xS → Int32 → Int32 → Int32 → Int32 → Prop
  | 0, _, _, _, _, _ => False
  | n + 1, σ, l1, l2, l3, l4 => ((xh_I σ 478 a0) ≤ l4 → wp_X7_delivers σ a0 l3 (fun x2 σ3 => K14 σ3 l1 (l2 + 1))) ∧ (¬ (xh_I σ 478 a0) ≤ l4 → vp_in l4 400 ∧ (vp_in l4 400 ∧ (vp_in l3 400 ∧ (vp_in l3 400 ∧ ((((4 * (xh_a σ (a0 + 28) l3.toNatClampNeg)) + (xh_a σ (a0 + 29) l3.toNatClampNeg)) ≤ ((4 * (xh_a σ (a0 + 28) l4.toNatClampNeg)) + (xh_a σ (a0 + 29) l4.toNatClampNeg)) → wb_X7_flow_81 Q K14 (fun σ l1 l2 l3 l4 => wb_X7_flow_31 Q K14 a0 n σ l1 l2 l3 l4) σ a0 l1 l2 l4 l3) ∧ (¬ ((4 * (xh_a σ (a0 + 28) l3.toNatClampNeg)) + (xh_a σ (a0 + 29) l3.toNatClampNeg)) ≤ ((4 * (xh_a σ (a0 + 28) l4.toNatClampNeg)) + (xh_a σ (a0 + 29) l4.toNatClampNeg)) → wb_X7_flow_81 Q K14 (fun σ l1 l2 l3 l4 => wb_X7_flow_31 Q K14 a0 n σ l1 l2 l3 l4) σ a0 l1 l2 l4 l4))))))
set_option maxRecDepth 100000 in
set_option maxHeartbeats 4000000 in
theorem xl_X7_flow_31 {Q : Int32 → xS → Prop} {K14 : xS → Int32 → Int32 → Prop} {a0 : Nat}  (hK14 : ∀ (σ : xS) (l1 : Int32) (l2 : Int32), xw7 σ a0 → K14 σ l1 l2 → xX M_X7_flow 14 [(0, .ref a0), (1, .int l1), (2, .int l2)] [] σ (xqI (fun r σ2 => xw7 σ2 a0 ∧ Q r σ2))) : ∀ (n : Nat) (σ : xS) (l1 : Int32) (l2 : Int32) (l3 : Int32) (l4 : Int32), xw7 σ a0 → wb_X7_flow_31 Q K14 a0 n σ l1 l2 l3 l4 → xX M_X7_flow 31 [(0, .ref a0), (1, .int l1), (2, .int l2), (3, .int l3), (4, .int l4)] [] σ (xqI (fun r σ2 => xw7 σ2 a0 ∧ Q r σ2)) := by
  intro n
  induction n with
  | zero => intro σ l1 l2 l3 l4 hW hw; exact False.elim hw
  | succ n ih =>
    intro σ l1 l2 l3 l4 hW hw
    unfold wb_X7_flow_31 at hw
    refine x_iload dX7_flow_31 4 rfl ?_
    refine x_aload_n dX7_flow_33 rfl 0 rfl ?_
    refine x_get (ci := 7) (k := 30) (v := .int (xh_I σ 478 a0)) dX7_flow_34 wF_X7_147 (Nat.le_of_ble_eq_true rfl) (Nat.le_of_ble_eq_true rfl) hW.1 rfl ?_
    refine x_icmp_ge 88 dX7_flow_37 rfl (fun hc1 => ?_) (fun hc1 => ?_)
    · replace hw := hw.1 hc1
      refine x_aload_n dX7_flow_88 rfl 0 rfl ?_
      refine x_iload_n dX7_flow_89 rfl 3 rfl ?_
      refine x_callV (M2 := M_X7_delivers) (As := [.int l3]) (st := []) (ci := 7) (Nat.le_of_ble_eq_true rfl) hW.1 rfl wM_X7_343 wI_X7_delivers wS_X7_delivers dX7_flow_90 rfl ok_X7_delivers ⟨(Nat.le_of_ble_eq_true rfl), (Nat.le_of_ble_eq_true rfl)⟩ (Nat.le_of_ble_eq_true rfl) (ct_X7_delivers hW hw) (xqI.k (fun x2 σ3 hw2 => ?_))
      obtain ⟨hW, hw⟩ := hw2
      refine x_istore [(4, .int x2), (0, .ref a0), (1, .int l1), (2, .int l2), (3, .int l3)] dX7_flow_93 (Nat.le_of_ble_eq_true rfl) rfl ?_
      refine x_iinc [(2, .int (l2 + 1)), (4, .int x2), (0, .ref a0), (1, .int l1), (3, .int l3)] dX7_flow_95 3 rfl (congrArg _ cI_1) (Nat.le_of_ble_eq_true rfl) rfl ?_
      refine x_goto 14 dX7_flow_98 rfl ?_
      exact x_sub [2, 3, 0] rfl (hK14 _ _ _ hW hw)
    · replace hw := hw.2 hc1
      refine x_iconst dX7_flow_40 cI_4 ?_
      refine x_aload_n dX7_flow_41 rfl 0 rfl ?_
      refine x_get (ci := 7) (k := 32) (v := .ref (a0 + 28)) dX7_flow_42 wF_X7_92 (Nat.le_of_ble_eq_true rfl) (Nat.le_of_ble_eq_true rfl) hW.1 (congrArg va_rf (w7r_28 hW)) ?_
      refine x_iload dX7_flow_45 4 rfl ?_
      obtain ⟨hv4, hw⟩ := hw
      refine x_ialdZ dX7_flow_47 (w7k_28 hW) (w7z_28 hW) hv4 ?_
      refine x_imul dX7_flow_48 ?_
      refine x_aload_n dX7_flow_49 rfl 0 rfl ?_
      refine x_get (ci := 7) (k := 33) (v := .ref (a0 + 29)) dX7_flow_50 wF_X7_95 (Nat.le_of_ble_eq_true rfl) (Nat.le_of_ble_eq_true rfl) hW.1 (congrArg va_rf (w7r_29 hW)) ?_
      refine x_iload dX7_flow_53 4 rfl ?_
      obtain ⟨hv5, hw⟩ := hw
      refine x_ialdZ dX7_flow_55 (w7k_29 hW) (w7z_29 hW) hv5 ?_
      refine x_iadd dX7_flow_56 ?_
      refine x_iconst dX7_flow_57 cI_4 ?_
      refine x_aload_n dX7_flow_58 rfl 0 rfl ?_
      refine x_get (ci := 7) (k := 32) (v := .ref (a0 + 28)) dX7_flow_59 wF_X7_92 (Nat.le_of_ble_eq_true rfl) (Nat.le_of_ble_eq_true rfl) hW.1 (congrArg va_rf (w7r_28 hW)) ?_
      refine x_iload_n dX7_flow_62 rfl 3 rfl ?_
      obtain ⟨hv6, hw⟩ := hw
      refine x_ialdZ dX7_flow_63 (w7k_28 hW) (w7z_28 hW) hv6 ?_
      refine x_imul dX7_flow_64 ?_
      refine x_aload_n dX7_flow_65 rfl 0 rfl ?_
      refine x_get (ci := 7) (k := 33) (v := .ref (a0 + 29)) dX7_flow_66 wF_X7_95 (Nat.le_of_ble_eq_true rfl) (Nat.le_of_ble_eq_true rfl) hW.1 (congrArg va_rf (w7r_29 hW)) ?_
      refine x_iload_n dX7_flow_69 rfl 3 rfl ?_
      obtain ⟨hv7, hw⟩ := hw
      refine x_ialdZ dX7_flow_70 (w7k_29 hW) (w7z_29 hW) hv7 ?_
      refine x_iadd dX7_flow_71 ?_
      refine x_icmp_ge 80 dX7_flow_72 rfl (fun hc8 => ?_) (fun hc8 => ?_)
      · replace hw := hw.1 hc8
        refine x_iload_n dX7_flow_80 rfl 3 rfl ?_
        exact x_sub [0, 1, 2, 4] rfl (xb_X7_flow_81 hW hK14 ih hw)
      · replace hw := hw.2 hc8
        refine x_iload dX7_flow_75 4 rfl ?_
        refine x_goto 81 dX7_flow_77 rfl ?_
        exact x_sub [0, 1, 2, 4] rfl (xb_X7_flow_81 hW hK14 ih hw)
def wb_X7_flow_14 (Q : Int32 → xS → Prop) (a0 : Nat) : Nat → xS → Int32 → Int32 → Prop
  | 0, _, _, _ => False
  | n + 1, σ, l1, l2 => (l1 ≤ l2 → wb_X7_flow_101 Q σ a0 l2) ∧ (¬ l1 ≤ l2 → ((xh_I σ 478 a0) ≤ 0 → wb_X7_flow_101 Q σ a0 l2) ∧ (¬ (xh_I σ 478 a0) ≤ 0 → ∃ m31, wb_X7_flow_31 Q (fun σ l1 l2 => wb_X7_flow_14 Q a0 n σ l1 l2) a0 m31 σ l1 l2 0 1))
set_option maxRecDepth 100000 in
set_option maxHeartbeats 4000000 in
theorem xl_X7_flow_14 {Q : Int32 → xS → Prop} {a0 : Nat}  : ∀ (n : Nat) (σ : xS) (l1 : Int32) (l2 : Int32), xw7 σ a0 → wb_X7_flow_14 Q a0 n σ l1 l2 → xX M_X7_flow 14 [(0, .ref a0), (1, .int l1), (2, .int l2)] [] σ (xqI (fun r σ2 => xw7 σ2 a0 ∧ Q r σ2)) := by
  intro n
  induction n with
  | zero => intro σ l1 l2 hW hw; exact False.elim hw
  | succ n ih =>
    intro σ l1 l2 hW hw
    unfold wb_X7_flow_14 at hw
    refine x_iload_n dX7_flow_14 rfl 2 rfl ?_
    refine x_iload_n dX7_flow_15 rfl 1 rfl ?_
    refine x_icmp_ge 101 dX7_flow_16 rfl (fun hc9 => ?_) (fun hc9 => ?_)
    · replace hw := hw.1 hc9
      exact x_sub [0, 2] rfl (xb_X7_flow_101 hW hw)
    · replace hw := hw.2 hc9
      refine x_aload_n dX7_flow_19 rfl 0 rfl ?_
      refine x_get (ci := 7) (k := 30) (v := .int (xh_I σ 478 a0)) dX7_flow_20 wF_X7_147 (Nat.le_of_ble_eq_true rfl) (Nat.le_of_ble_eq_true rfl) hW.1 rfl ?_
      refine x_if_le 101 dX7_flow_23 rfl (fun hc10 => ?_) (fun hc10 => ?_)
      · replace hw := hw.1 hc10
        exact x_sub [0, 2] rfl (xb_X7_flow_101 hW hw)
      · replace hw := hw.2 hc10
        refine x_iconst dX7_flow_26 cI_0 ?_
        refine x_istore_n [(3, .int 0), (0, .ref a0), (1, .int l1), (2, .int l2)] dX7_flow_27 rfl (Nat.le_of_ble_eq_true rfl) rfl ?_
        refine x_iconst dX7_flow_28 cI_1 ?_
        refine x_istore [(4, .int 1), (3, .int 0), (0, .ref a0), (1, .int l1), (2, .int l2)] dX7_flow_29 (Nat.le_of_ble_eq_true rfl) rfl ?_
        obtain ⟨m31, hw⟩ := hw
        exact x_sub [2, 3, 4, 1, 0] rfl (xl_X7_flow_31 ih m31 _ _ _ _ _ hW hw)
def wp_X7_flow (σ : xS) (a0 : Nat) (l1 : Int32) (Q : Int32 → xS → Prop) : Prop := wp_X7_in σ l1 1 100 (fun x11 => (x11 = 0 → Q (-1) σ) ∧ (¬ x11 = 0 → ∃ m14, wb_X7_flow_14 Q a0 m14 σ l1 0))
set_option maxRecDepth 100000 in
set_option maxHeartbeats 4000000 in
theorem ct_X7_flow {σ : xS} {a0 : Nat}  {l1 : Int32} {Q : Int32 → xS → Prop} (hW : xw7 σ a0) (hw : wp_X7_flow σ a0 l1 Q) : xCt M_X7_flow [.ref a0, .int l1] σ (xqI (fun r σ2 => xw7 σ2 a0 ∧ Q r σ2)) := by
  refine xCt_ofL (lv := [(0, .ref a0), (1, .int l1)]) pn_X7 (Nat.le_of_ble_eq_true rfl) rfl ?_
  unfold wp_X7_flow at hw
  refine x_iload_n dX7_flow_0 rfl 1 rfl ?_
  refine x_iconst dX7_flow_1 cI_1 ?_
  refine x_bipush dX7_flow_2 cB_100 ?_
  refine x_callS (M2 := M_X7_in) (As := [.int l1, .int 1, .int 100]) (st := []) wM_X7_132 wZ_X7_in dX7_flow_4 rfl ok_X7_in ⟨(Nat.le_of_ble_eq_true rfl), (Nat.le_of_ble_eq_true rfl)⟩ (Nat.le_of_ble_eq_true rfl) (ct_X7_in hw) (xqI.k (fun x11 τ12 hw2 => ?_))
  obtain ⟨he, hw⟩ := hw2
  subst he
  refine x_if_ne 12 dX7_flow_7 rfl (fun hc13 => ?_) (fun hc13 => ?_)
  · replace hw := hw.2 hc13
    refine x_iconst dX7_flow_12 cI_0 ?_
    refine x_istore_n [(2, .int 0), (0, .ref a0), (1, .int l1)] dX7_flow_13 rfl (Nat.le_of_ble_eq_true rfl) rfl ?_
    obtain ⟨m14, hw⟩ := hw
    exact x_sub [1, 2, 0] rfl (xl_X7_flow_14 m14 _ _ _ hW hw)
  · replace hw := hw.1 hc13
    refine x_iconst dX7_flow_10 cI_m1 ?_
    exact x_iret dX7_flow_11 rfl ⟨(-1), rfl, hW, hw⟩
-- PromiseWireModel.losesAll(II)I
def wb_X7_losesAll_66 (Q : Int32 → xS → Prop) (K10 : xS → Int32 → Int32 → Int32 → Int32 → Prop) (σ : xS) (a0 : Nat) (l1 : Int32) (l2 : Int32) (l3 : Int32) : Prop := wp_X7_doesAll σ a0 (fun σ1 => wp_X7_firstLetter σ1 a0 l1 l2 (fun x2 => K10 σ1 l1 l2 (l3 + 1) x2))
set_option maxRecDepth 100000 in
set_option maxHeartbeats 4000000 in
theorem xb_X7_losesAll_66 {Q : Int32 → xS → Prop} {K10 : xS → Int32 → Int32 → Int32 → Int32 → Prop} {σ : xS} {a0 : Nat}  {l1 : Int32} {l2 : Int32} {l3 : Int32} (hW : xw7 σ a0)  (hK10 : ∀ (σ : xS) (l1 : Int32) (l2 : Int32) (l3 : Int32) (l4 : Int32), xw7 σ a0 → K10 σ l1 l2 l3 l4 → xX M_X7_losesAll 10 [(0, .ref a0), (1, .int l1), (2, .int l2), (3, .int l3), (4, .int l4)] [] σ (xqI (fun r σ2 => xw7 σ2 a0 ∧ Q r σ2))) (hw : wb_X7_losesAll_66 Q K10 σ a0 l1 l2 l3) : xX M_X7_losesAll 66 [(0, .ref a0), (1, .int l1), (2, .int l2), (3, .int l3)] [] σ (xqI (fun r σ2 => xw7 σ2 a0 ∧ Q r σ2)) := by
  unfold wb_X7_losesAll_66 at hw
  refine x_iinc [(3, .int (l3 + 1)), (0, .ref a0), (1, .int l1), (2, .int l2)] dX7_losesAll_66 3 rfl (congrArg _ cI_1) (Nat.le_of_ble_eq_true rfl) rfl ?_
  refine x_aload_n dX7_losesAll_69 rfl 1 rfl ?_
  refine x_callV (M2 := M_X7_doesAll) (As := []) (st := []) (ci := 7) (Nat.le_of_ble_eq_true rfl) hW.1 rfl wM_X7_277 wI_X7_doesAll wS_X7_doesAll dX7_losesAll_70 rfl ok_X7_doesAll ⟨(Nat.le_of_ble_eq_true rfl), (Nat.le_of_ble_eq_true rfl)⟩ (Nat.le_of_ble_eq_true rfl) (ct_X7_doesAll hW hw) (xqV.k (fun σ1 hw2 => ?_))
  obtain ⟨hW, hw⟩ := hw2
  refine x_aload_n dX7_losesAll_73 rfl 1 rfl ?_
  refine x_iload_n dX7_losesAll_74 rfl 2 rfl ?_
  refine x_iload_n dX7_losesAll_75 rfl 3 rfl ?_
  refine x_callV (M2 := M_X7_firstLetter) (As := [.int l1, .int l2]) (st := []) (ci := 7) (Nat.le_of_ble_eq_true rfl) hW.1 rfl wM_X7_340 wI_X7_firstLetter wS_X7_firstLetter dX7_losesAll_76 rfl ok_X7_firstLetter ⟨(Nat.le_of_ble_eq_true rfl), (Nat.le_of_ble_eq_true rfl)⟩ (Nat.le_of_ble_eq_true rfl) (ct_X7_firstLetter hW hw) (xqI.k (fun x2 τ3 hw2 => ?_))
  obtain ⟨he, hw⟩ := hw2
  subst he
  refine x_istore [(4, .int x2), (3, .int (l3 + 1)), (0, .ref a0), (1, .int l1), (2, .int l2)] dX7_losesAll_79 (Nat.le_of_ble_eq_true rfl) rfl ?_
  refine x_goto 10 dX7_losesAll_81 rfl ?_
  exact x_sub [2, 3, 4, 1, 0] rfl (hK10 _ _ _ _ _ hW hw)
def wb_X7_losesAll_10 (Q : Int32 → xS → Prop) (a0 : Nat) : Nat → xS → Int32 → Int32 → Int32 → Int32 → Prop
  | 0, _, _, _, _, _ => False
  | n + 1, σ, l1, l2, l3, l4 => ((xh_I σ 478 a0) ≤ l4 → Q l3 σ) ∧ (¬ (xh_I σ 478 a0) ≤ l4 → wp_X7_takesOut σ a0 l4 (fun σ5 => ((xh_I σ5 498 a0) = 0 → wp_X7_losesMessage σ5 a0 (xh_I σ5 501 a0) l1 (fun σ9 => wb_X7_losesAll_66 Q (fun σ l1 l2 l3 l4 => wb_X7_losesAll_10 Q a0 n σ l1 l2 l3 l4) σ9 a0 l1 l2 l3)) ∧ (¬ (xh_I σ5 498 a0) = 0 → ((xh_I σ5 498 a0) = 1 → wp_X7_comesBack σ5 a0 (xh_I σ5 501 a0) 3 1 (xh_I σ5 506 a0) (fun σ8 => wb_X7_losesAll_66 Q (fun σ l1 l2 l3 l4 => wb_X7_losesAll_10 Q a0 n σ l1 l2 l3 l4) σ8 a0 l1 l2 l3)) ∧ (¬ (xh_I σ5 498 a0) = 1 → wb_X7_losesAll_66 Q (fun σ l1 l2 l3 l4 => wb_X7_losesAll_10 Q a0 n σ l1 l2 l3 l4) σ5 a0 l1 l2 l3))))
set_option maxRecDepth 100000 in
set_option maxHeartbeats 4000000 in
theorem xl_X7_losesAll_10 {Q : Int32 → xS → Prop} {a0 : Nat}  : ∀ (n : Nat) (σ : xS) (l1 : Int32) (l2 : Int32) (l3 : Int32) (l4 : Int32), xw7 σ a0 → wb_X7_losesAll_10 Q a0 n σ l1 l2 l3 l4 → xX M_X7_losesAll 10 [(0, .ref a0), (1, .int l1), (2, .int l2), (3, .int l3), (4, .int l4)] [] σ (xqI (fun r σ2 => xw7 σ2 a0 ∧ Q r σ2)) := by
  intro n
  induction n with
  | zero => intro σ l1 l2 l3 l4 hW hw; exact False.elim hw
  | succ n ih =>
    intro σ l1 l2 l3 l4 hW hw
    unfold wb_X7_losesAll_10 at hw
    refine x_iload dX7_losesAll_10 4 rfl ?_
    refine x_aload_n dX7_losesAll_12 rfl 0 rfl ?_
    refine x_get (ci := 7) (k := 30) (v := .int (xh_I σ 478 a0)) dX7_losesAll_13 wF_X7_147 (Nat.le_of_ble_eq_true rfl) (Nat.le_of_ble_eq_true rfl) hW.1 rfl ?_
    refine x_icmp_ge 84 dX7_losesAll_16 rfl (fun hc4 => ?_) (fun hc4 => ?_)
    · replace hw := hw.1 hc4
      refine x_iload_n dX7_losesAll_84 rfl 3 rfl ?_
      exact x_iret dX7_losesAll_85 rfl ⟨l3, rfl, hW, hw⟩
    · replace hw := hw.2 hc4
      refine x_aload_n dX7_losesAll_19 rfl 0 rfl ?_
      refine x_iload dX7_losesAll_20 4 rfl ?_
      refine x_callV (M2 := M_X7_takesOut) (As := [.int l4]) (st := []) (ci := 7) (Nat.le_of_ble_eq_true rfl) hW.1 rfl wM_X7_328 wI_X7_takesOut wS_X7_takesOut dX7_losesAll_22 rfl ok_X7_takesOut ⟨(Nat.le_of_ble_eq_true rfl), (Nat.le_of_ble_eq_true rfl)⟩ (Nat.le_of_ble_eq_true rfl) (ct_X7_takesOut hW hw) (xqV.k (fun σ5 hw2 => ?_))
      obtain ⟨hW, hw⟩ := hw2
      refine x_aload_n dX7_losesAll_25 rfl 0 rfl ?_
      refine x_get (ci := 7) (k := 50) (v := .int (xh_I σ5 498 a0)) dX7_losesAll_26 wF_X7_297 (Nat.le_of_ble_eq_true rfl) (Nat.le_of_ble_eq_true rfl) hW.1 rfl ?_
      refine x_if_ne 44 dX7_losesAll_29 rfl (fun hc6 => ?_) (fun hc6 => ?_)
      · replace hw := hw.2 hc6
        refine x_aload_n dX7_losesAll_44 rfl 0 rfl ?_
        refine x_get (ci := 7) (k := 50) (v := .int (xh_I σ5 498 a0)) dX7_losesAll_45 wF_X7_297 (Nat.le_of_ble_eq_true rfl) (Nat.le_of_ble_eq_true rfl) hW.1 rfl ?_
        refine x_iconst dX7_losesAll_48 cI_1 ?_
        refine x_icmp_ne 66 dX7_losesAll_49 rfl (fun hc7 => ?_) (fun hc7 => ?_)
        · replace hw := hw.2 hc7
          exact x_sub [0, 1, 2, 3] rfl (xb_X7_losesAll_66 hW ih hw)
        · replace hw := hw.1 hc7
          refine x_aload_n dX7_losesAll_52 rfl 0 rfl ?_
          refine x_aload_n dX7_losesAll_53 rfl 0 rfl ?_
          refine x_get (ci := 7) (k := 53) (v := .int (xh_I σ5 501 a0)) dX7_losesAll_54 wF_X7_306 (Nat.le_of_ble_eq_true rfl) (Nat.le_of_ble_eq_true rfl) hW.1 rfl ?_
          refine x_iconst dX7_losesAll_57 cI_3 ?_
          refine x_iconst dX7_losesAll_58 cI_1 ?_
          refine x_aload_n dX7_losesAll_59 rfl 0 rfl ?_
          refine x_get (ci := 7) (k := 58) (v := .int (xh_I σ5 506 a0)) dX7_losesAll_60 wF_X7_321 (Nat.le_of_ble_eq_true rfl) (Nat.le_of_ble_eq_true rfl) hW.1 rfl ?_
          refine x_callV (M2 := M_X7_comesBack) (As := [.int (xh_I σ5 501 a0), .int 3, .int 1, .int (xh_I σ5 506 a0)]) (st := []) (ci := 7) (Nat.le_of_ble_eq_true rfl) hW.1 rfl wM_X7_177 wI_X7_comesBack wS_X7_comesBack dX7_losesAll_63 rfl ok_X7_comesBack ⟨(Nat.le_of_ble_eq_true rfl), (Nat.le_of_ble_eq_true rfl)⟩ (Nat.le_of_ble_eq_true rfl) (ct_X7_comesBack hW hw) (xqV.k (fun σ8 hw2 => ?_))
          obtain ⟨hW, hw⟩ := hw2
          exact x_sub [0, 1, 2, 3] rfl (xb_X7_losesAll_66 hW ih hw)
      · replace hw := hw.1 hc6
        refine x_aload_n dX7_losesAll_32 rfl 0 rfl ?_
        refine x_aload_n dX7_losesAll_33 rfl 0 rfl ?_
        refine x_get (ci := 7) (k := 53) (v := .int (xh_I σ5 501 a0)) dX7_losesAll_34 wF_X7_306 (Nat.le_of_ble_eq_true rfl) (Nat.le_of_ble_eq_true rfl) hW.1 rfl ?_
        refine x_iload_n dX7_losesAll_37 rfl 1 rfl ?_
        refine x_callV (M2 := M_X7_losesMessage) (As := [.int (xh_I σ5 501 a0), .int l1]) (st := []) (ci := 7) (Nat.le_of_ble_eq_true rfl) hW.1 rfl wM_X7_188 wI_X7_losesMessage wS_X7_losesMessage dX7_losesAll_38 rfl ok_X7_losesMessage ⟨(Nat.le_of_ble_eq_true rfl), (Nat.le_of_ble_eq_true rfl)⟩ (Nat.le_of_ble_eq_true rfl) (ct_X7_losesMessage hW hw) (xqV.k (fun σ9 hw2 => ?_))
        obtain ⟨hW, hw⟩ := hw2
        refine x_goto 66 dX7_losesAll_41 rfl ?_
        exact x_sub [0, 1, 2, 3] rfl (xb_X7_losesAll_66 hW ih hw)
def wp_X7_losesAll (σ : xS) (a0 : Nat) (l1 : Int32) (l2 : Int32) (Q : Int32 → xS → Prop) : Prop := wp_X7_firstLetter σ a0 l1 l2 (fun x10 => ∃ m10, wb_X7_losesAll_10 Q a0 m10 σ l1 l2 0 x10)
set_option maxRecDepth 100000 in
set_option maxHeartbeats 4000000 in
theorem ct_X7_losesAll {σ : xS} {a0 : Nat}  {l1 : Int32} {l2 : Int32} {Q : Int32 → xS → Prop} (hW : xw7 σ a0) (hw : wp_X7_losesAll σ a0 l1 l2 Q) : xCt M_X7_losesAll [.ref a0, .int l1, .int l2] σ (xqI (fun r σ2 => xw7 σ2 a0 ∧ Q r σ2)) := by
  refine xCt_ofL (lv := [(0, .ref a0), (1, .int l1), (2, .int l2)]) pn_X7 (Nat.le_of_ble_eq_true rfl) rfl ?_
  unfold wp_X7_losesAll at hw
  refine x_iconst dX7_losesAll_0 cI_0 ?_
  refine x_istore_n [(3, .int 0), (0, .ref a0), (1, .int l1), (2, .int l2)] dX7_losesAll_1 rfl (Nat.le_of_ble_eq_true rfl) rfl ?_
  refine x_aload_n dX7_losesAll_2 rfl 1 rfl ?_
  refine x_iload_n dX7_losesAll_3 rfl 2 rfl ?_
  refine x_iload_n dX7_losesAll_4 rfl 3 rfl ?_
  refine x_callV (M2 := M_X7_firstLetter) (As := [.int l1, .int l2]) (st := []) (ci := 7) (Nat.le_of_ble_eq_true rfl) hW.1 rfl wM_X7_340 wI_X7_firstLetter wS_X7_firstLetter dX7_losesAll_5 rfl ok_X7_firstLetter ⟨(Nat.le_of_ble_eq_true rfl), (Nat.le_of_ble_eq_true rfl)⟩ (Nat.le_of_ble_eq_true rfl) (ct_X7_firstLetter hW hw) (xqI.k (fun x10 τ11 hw2 => ?_))
  obtain ⟨he, hw⟩ := hw2
  subst he
  refine x_istore [(4, .int x10), (3, .int 0), (0, .ref a0), (1, .int l1), (2, .int l2)] dX7_losesAll_8 (Nat.le_of_ble_eq_true rfl) rfl ?_
  obtain ⟨m10, hw⟩ := hw
  exact x_sub [2, 3, 4, 1, 0] rfl (xl_X7_losesAll_10 m10 _ _ _ _ _ hW hw)
-- PromiseWireModel.cut(II)I
def wb_X7_cut_74 (Q : Int32 → xS → Prop) (σ : xS) (a0 : Nat) (l3 : Int32) (s0 : Int32) : Prop := wp_X7_losesAll σ a0 l3 s0 (fun x1 σ2 => wp_X7_losesAll σ2 a0 s0 l3 (fun x3 σ4 => Q (x1 + x3) σ4))
set_option maxRecDepth 100000 in
set_option maxHeartbeats 4000000 in
theorem xb_X7_cut_74 {Q : Int32 → xS → Prop} {σ : xS} {a0 : Nat}  {l3 : Int32} {s0 : Int32} (hW : xw7 σ a0)  (hw : wb_X7_cut_74 Q σ a0 l3 s0) : xX M_X7_cut 74 [(0, .ref a0), (3, .int l3)] [.int s0] σ (xqI (fun r σ2 => xw7 σ2 a0 ∧ Q r σ2)) := by
  unfold wb_X7_cut_74 at hw
  refine x_istore [(4, .int s0), (0, .ref a0), (3, .int l3)] dX7_cut_74 (Nat.le_of_ble_eq_true rfl) rfl ?_
  refine x_aload_n dX7_cut_76 rfl 1 rfl ?_
  refine x_iload_n dX7_cut_77 rfl 2 rfl ?_
  refine x_iload dX7_cut_78 0 rfl ?_
  refine x_callV (M2 := M_X7_losesAll) (As := [.int l3, .int s0]) (st := []) (ci := 7) (Nat.le_of_ble_eq_true rfl) hW.1 rfl wM_X7_346 wI_X7_losesAll wS_X7_losesAll dX7_cut_80 rfl ok_X7_losesAll ⟨(Nat.le_of_ble_eq_true rfl), (Nat.le_of_ble_eq_true rfl)⟩ (Nat.le_of_ble_eq_true rfl) (ct_X7_losesAll hW hw) (xqI.k (fun x1 σ2 hw2 => ?_))
  obtain ⟨hW, hw⟩ := hw2
  refine x_istore [(5, .int x1), (4, .int s0), (0, .ref a0), (3, .int l3)] dX7_cut_83 (Nat.le_of_ble_eq_true rfl) rfl ?_
  refine x_iload dX7_cut_85 0 rfl ?_
  refine x_aload_n dX7_cut_87 rfl 2 rfl ?_
  refine x_iload dX7_cut_88 1 rfl ?_
  refine x_iload_n dX7_cut_90 rfl 3 rfl ?_
  refine x_callV (M2 := M_X7_losesAll) (As := [.int s0, .int l3]) (st := [.int x1]) (ci := 7) (Nat.le_of_ble_eq_true rfl) hW.1 rfl wM_X7_346 wI_X7_losesAll wS_X7_losesAll dX7_cut_91 rfl ok_X7_losesAll ⟨(Nat.le_of_ble_eq_true rfl), (Nat.le_of_ble_eq_true rfl)⟩ (Nat.le_of_ble_eq_true rfl) (ct_X7_losesAll hW hw) (xqI.k (fun x3 σ4 hw2 => ?_))
  obtain ⟨hW, hw⟩ := hw2
  refine x_iadd dX7_cut_94 ?_
  exact x_iret dX7_cut_95 rfl ⟨(x1 + x3), rfl, hW, hw⟩
def wb_X7_cut_63 (Q : Int32 → xS → Prop) (σ : xS) (a0 : Nat) (l1 : Int32) (l2 : Int32) (s0 : Int32) : Prop := (l2 ≤ l1 → wb_X7_cut_74 Q σ a0 s0 l1) ∧ (¬ l2 ≤ l1 → wb_X7_cut_74 Q σ a0 s0 l2)
set_option maxRecDepth 100000 in
set_option maxHeartbeats 4000000 in
theorem xb_X7_cut_63 {Q : Int32 → xS → Prop} {σ : xS} {a0 : Nat}  {l1 : Int32} {l2 : Int32} {s0 : Int32} (hW : xw7 σ a0)  (hw : wb_X7_cut_63 Q σ a0 l1 l2 s0) : xX M_X7_cut 63 [(0, .ref a0), (1, .int l1), (2, .int l2)] [.int s0] σ (xqI (fun r σ2 => xw7 σ2 a0 ∧ Q r σ2)) := by
  unfold wb_X7_cut_63 at hw
  refine x_istore_n [(3, .int s0), (0, .ref a0), (1, .int l1), (2, .int l2)] dX7_cut_63 rfl (Nat.le_of_ble_eq_true rfl) rfl ?_
  refine x_iload_n dX7_cut_64 rfl 2 rfl ?_
  refine x_iload_n dX7_cut_65 rfl 3 rfl ?_
  refine x_icmp_ge 73 dX7_cut_66 rfl (fun hc5 => ?_) (fun hc5 => ?_)
  · replace hw := hw.1 hc5
    refine x_iload_n dX7_cut_73 rfl 2 rfl ?_
    exact x_sub [1, 0] rfl (xb_X7_cut_74 hW hw)
  · replace hw := hw.2 hc5
    refine x_iload_n dX7_cut_69 rfl 3 rfl ?_
    refine x_goto 74 dX7_cut_70 rfl ?_
    exact x_sub [1, 0] rfl (xb_X7_cut_74 hW hw)
def wb_X7_cut_13 (Q : Int32 → xS → Prop) (σ : xS) (a0 : Nat) : Prop := Q (-1) σ
set_option maxRecDepth 100000 in
set_option maxHeartbeats 4000000 in
theorem xb_X7_cut_13 {Q : Int32 → xS → Prop} {σ : xS} {a0 : Nat}  (hW : xw7 σ a0)  (hw : wb_X7_cut_13 Q σ a0) : xX M_X7_cut 13 [(0, .ref a0)] [] σ (xqI (fun r σ2 => xw7 σ2 a0 ∧ Q r σ2)) := by
  unfold wb_X7_cut_13 at hw
  refine x_iconst dX7_cut_13 cI_m1 ?_
  exact x_iret dX7_cut_14 rfl ⟨(-1), rfl, hW, hw⟩
def wp_X7_cut (σ : xS) (a0 : Nat) (l1 : Int32) (l2 : Int32) (Q : Int32 → xS → Prop) : Prop := wp_X7_areHouses σ l1 l2 (fun x6 => (x6 = 0 → wb_X7_cut_13 Q σ a0) ∧ (¬ x6 = 0 → (l1 = l2 → wb_X7_cut_13 Q σ a0) ∧ (¬ l1 = l2 → vp_in ((4 * l1) + l2) 16 ∧ (((xh_a σ (a0 + 36) ((4 * l1) + l2).toNatClampNeg) = 0 → vp_in ((4 * l1) + l2) 16 ∧ ∀ σ13, σ13 = xs_a σ (a0 + 36) ((4 * l1) + l2).toNatClampNeg 1 → (vp_in ((4 * l2) + l1) 16 ∧ ∀ σ15, σ15 = xs_a σ13 (a0 + 36) ((4 * l2) + l1).toNatClampNeg 1 → ((l2 ≤ l1 → wb_X7_cut_63 Q σ15 a0 l1 l2 l2) ∧ (¬ l2 ≤ l1 → wb_X7_cut_63 Q σ15 a0 l1 l2 l1)))) ∧ (¬ (xh_a σ (a0 + 36) ((4 * l1) + l2).toNatClampNeg) = 0 → Q (-2) σ)))))
set_option maxRecDepth 100000 in
set_option maxHeartbeats 4000000 in
theorem ct_X7_cut {σ : xS} {a0 : Nat}  {l1 : Int32} {l2 : Int32} {Q : Int32 → xS → Prop} (hW : xw7 σ a0) (hw : wp_X7_cut σ a0 l1 l2 Q) : xCt M_X7_cut [.ref a0, .int l1, .int l2] σ (xqI (fun r σ2 => xw7 σ2 a0 ∧ Q r σ2)) := by
  refine xCt_ofL (lv := [(0, .ref a0), (1, .int l1), (2, .int l2)]) pn_X7 (Nat.le_of_ble_eq_true rfl) rfl ?_
  unfold wp_X7_cut at hw
  refine x_iload_n dX7_cut_0 rfl 1 rfl ?_
  refine x_iload_n dX7_cut_1 rfl 2 rfl ?_
  refine x_callS (M2 := M_X7_areHouses) (As := [.int l1, .int l2]) (st := []) wM_X7_337 wZ_X7_areHouses dX7_cut_2 rfl ok_X7_areHouses ⟨(Nat.le_of_ble_eq_true rfl), (Nat.le_of_ble_eq_true rfl)⟩ (Nat.le_of_ble_eq_true rfl) (ct_X7_areHouses hw) (xqI.k (fun x6 τ7 hw2 => ?_))
  obtain ⟨he, hw⟩ := hw2
  subst he
  refine x_if_eq 13 dX7_cut_5 rfl (fun hc8 => ?_) (fun hc8 => ?_)
  · replace hw := hw.1 hc8
    exact x_sub [0] rfl (xb_X7_cut_13 hW hw)
  · replace hw := hw.2 hc8
    refine x_iload_n dX7_cut_8 rfl 1 rfl ?_
    refine x_iload_n dX7_cut_9 rfl 2 rfl ?_
    refine x_icmp_ne 15 dX7_cut_10 rfl (fun hc9 => ?_) (fun hc9 => ?_)
    · replace hw := hw.2 hc9
      refine x_aload_n dX7_cut_15 rfl 0 rfl ?_
      refine x_get (ci := 7) (k := 40) (v := .ref (a0 + 36)) dX7_cut_16 wF_X7_116 (Nat.le_of_ble_eq_true rfl) (Nat.le_of_ble_eq_true rfl) hW.1 (congrArg va_rf (w7r_36 hW)) ?_
      refine x_iconst dX7_cut_19 cI_4 ?_
      refine x_iload_n dX7_cut_20 rfl 1 rfl ?_
      refine x_imul dX7_cut_21 ?_
      refine x_iload_n dX7_cut_22 rfl 2 rfl ?_
      refine x_iadd dX7_cut_23 ?_
      obtain ⟨hv10, hw⟩ := hw
      refine x_zaldZ dX7_cut_24 (w7k_36 hW) (w7z_36 hW) hv10 ?_
      refine x_if_eq 31 dX7_cut_25 rfl (fun hc11 => ?_) (fun hc11 => ?_)
      · replace hw := hw.1 hc11
        refine x_aload_n dX7_cut_31 rfl 0 rfl ?_
        refine x_get (ci := 7) (k := 40) (v := .ref (a0 + 36)) dX7_cut_32 wF_X7_116 (Nat.le_of_ble_eq_true rfl) (Nat.le_of_ble_eq_true rfl) hW.1 (congrArg va_rf (w7r_36 hW)) ?_
        refine x_iconst dX7_cut_35 cI_4 ?_
        refine x_iload_n dX7_cut_36 rfl 1 rfl ?_
        refine x_imul dX7_cut_37 ?_
        refine x_iload_n dX7_cut_38 rfl 2 rfl ?_
        refine x_iadd dX7_cut_39 ?_
        refine x_iconst dX7_cut_40 cI_1 ?_
        obtain ⟨hv12, hw⟩ := hw
        refine x_zastN dX7_cut_41 (w7k_36 hW) (w7z_36 hW) hv12 (Or.inr rfl) (fun σ13 hσ13 => ?_)
        replace hw := hw σ13 hσ13
        refine x_aload_n dX7_cut_42 rfl 0 rfl ?_
        have hW := (xw7_a hσ13 hW)
        refine x_get (ci := 7) (k := 40) (v := .ref (a0 + 36)) dX7_cut_43 wF_X7_116 (Nat.le_of_ble_eq_true rfl) (Nat.le_of_ble_eq_true rfl) hW.1 (congrArg va_rf (w7r_36 hW)) ?_
        refine x_iconst dX7_cut_46 cI_4 ?_
        refine x_iload_n dX7_cut_47 rfl 2 rfl ?_
        refine x_imul dX7_cut_48 ?_
        refine x_iload_n dX7_cut_49 rfl 1 rfl ?_
        refine x_iadd dX7_cut_50 ?_
        refine x_iconst dX7_cut_51 cI_1 ?_
        obtain ⟨hv14, hw⟩ := hw
        refine x_zastN dX7_cut_52 (w7k_36 hW) (w7z_36 hW) hv14 (Or.inr rfl) (fun σ15 hσ15 => ?_)
        replace hw := hw σ15 hσ15
        refine x_iload_n dX7_cut_53 rfl 1 rfl ?_
        refine x_iload_n dX7_cut_54 rfl 2 rfl ?_
        refine x_icmp_ge 62 dX7_cut_55 rfl (fun hc16 => ?_) (fun hc16 => ?_)
        · replace hw := hw.1 hc16
          refine x_iload_n dX7_cut_62 rfl 2 rfl ?_
          have hW := (xw7_a hσ15 hW)
          exact x_sub [0, 1, 2] rfl (xb_X7_cut_63 hW hw)
        · replace hw := hw.2 hc16
          refine x_iload_n dX7_cut_58 rfl 1 rfl ?_
          refine x_goto 63 dX7_cut_59 rfl ?_
          have hW := (xw7_a hσ15 hW)
          exact x_sub [0, 1, 2] rfl (xb_X7_cut_63 hW hw)
      · replace hw := hw.2 hc11
        refine x_bipush dX7_cut_28 cB_m2 ?_
        exact x_iret dX7_cut_30 rfl ⟨(-2), rfl, hW, hw⟩
    · replace hw := hw.1 hc9
      exact x_sub [0] rfl (xb_X7_cut_13 hW hw)
-- PromiseWireModel.again(II)I
def wb_X7_again_13 (Q : Int32 → xS → Prop) (σ : xS) (a0 : Nat) : Prop := Q (-1) σ
set_option maxRecDepth 100000 in
set_option maxHeartbeats 4000000 in
theorem xb_X7_again_13 {Q : Int32 → xS → Prop} {σ : xS} {a0 : Nat}  (hW : xw7 σ a0)  (hw : wb_X7_again_13 Q σ a0) : xX M_X7_again 13 [(0, .ref a0)] [] σ (xqI (fun r σ2 => xw7 σ2 a0 ∧ Q r σ2)) := by
  unfold wb_X7_again_13 at hw
  refine x_iconst dX7_again_13 cI_m1 ?_
  exact x_iret dX7_again_14 rfl ⟨(-1), rfl, hW, hw⟩
def wp_X7_again (σ : xS) (a0 : Nat) (l1 : Int32) (l2 : Int32) (Q : Int32 → xS → Prop) : Prop := wp_X7_areHouses σ l1 l2 (fun x1 => (x1 = 0 → wb_X7_again_13 Q σ a0) ∧ (¬ x1 = 0 → (l1 = l2 → wb_X7_again_13 Q σ a0) ∧ (¬ l1 = l2 → vp_in ((4 * l1) + l2) 16 ∧ (((xh_a σ (a0 + 36) ((4 * l1) + l2).toNatClampNeg) = 0 → Q (-2) σ) ∧ (¬ (xh_a σ (a0 + 36) ((4 * l1) + l2).toNatClampNeg) = 0 → vp_in ((4 * l1) + l2) 16 ∧ ∀ σ8, σ8 = xs_a σ (a0 + 36) ((4 * l1) + l2).toNatClampNeg 0 → (vp_in ((4 * l2) + l1) 16 ∧ ∀ σ10, σ10 = xs_a σ8 (a0 + 36) ((4 * l2) + l1).toNatClampNeg 0 → (Q 1 σ10)))))))
set_option maxRecDepth 100000 in
set_option maxHeartbeats 4000000 in
theorem ct_X7_again {σ : xS} {a0 : Nat}  {l1 : Int32} {l2 : Int32} {Q : Int32 → xS → Prop} (hW : xw7 σ a0) (hw : wp_X7_again σ a0 l1 l2 Q) : xCt M_X7_again [.ref a0, .int l1, .int l2] σ (xqI (fun r σ2 => xw7 σ2 a0 ∧ Q r σ2)) := by
  refine xCt_ofL (lv := [(0, .ref a0), (1, .int l1), (2, .int l2)]) pn_X7 (Nat.le_of_ble_eq_true rfl) rfl ?_
  unfold wp_X7_again at hw
  refine x_iload_n dX7_again_0 rfl 1 rfl ?_
  refine x_iload_n dX7_again_1 rfl 2 rfl ?_
  refine x_callS (M2 := M_X7_areHouses) (As := [.int l1, .int l2]) (st := []) wM_X7_337 wZ_X7_areHouses dX7_again_2 rfl ok_X7_areHouses ⟨(Nat.le_of_ble_eq_true rfl), (Nat.le_of_ble_eq_true rfl)⟩ (Nat.le_of_ble_eq_true rfl) (ct_X7_areHouses hw) (xqI.k (fun x1 τ2 hw2 => ?_))
  obtain ⟨he, hw⟩ := hw2
  subst he
  refine x_if_eq 13 dX7_again_5 rfl (fun hc3 => ?_) (fun hc3 => ?_)
  · replace hw := hw.1 hc3
    exact x_sub [0] rfl (xb_X7_again_13 hW hw)
  · replace hw := hw.2 hc3
    refine x_iload_n dX7_again_8 rfl 1 rfl ?_
    refine x_iload_n dX7_again_9 rfl 2 rfl ?_
    refine x_icmp_ne 15 dX7_again_10 rfl (fun hc4 => ?_) (fun hc4 => ?_)
    · replace hw := hw.2 hc4
      refine x_aload_n dX7_again_15 rfl 0 rfl ?_
      refine x_get (ci := 7) (k := 40) (v := .ref (a0 + 36)) dX7_again_16 wF_X7_116 (Nat.le_of_ble_eq_true rfl) (Nat.le_of_ble_eq_true rfl) hW.1 (congrArg va_rf (w7r_36 hW)) ?_
      refine x_iconst dX7_again_19 cI_4 ?_
      refine x_iload_n dX7_again_20 rfl 1 rfl ?_
      refine x_imul dX7_again_21 ?_
      refine x_iload_n dX7_again_22 rfl 2 rfl ?_
      refine x_iadd dX7_again_23 ?_
      obtain ⟨hv5, hw⟩ := hw
      refine x_zaldZ dX7_again_24 (w7k_36 hW) (w7z_36 hW) hv5 ?_
      refine x_if_ne 31 dX7_again_25 rfl (fun hc6 => ?_) (fun hc6 => ?_)
      · replace hw := hw.2 hc6
        refine x_aload_n dX7_again_31 rfl 0 rfl ?_
        refine x_get (ci := 7) (k := 40) (v := .ref (a0 + 36)) dX7_again_32 wF_X7_116 (Nat.le_of_ble_eq_true rfl) (Nat.le_of_ble_eq_true rfl) hW.1 (congrArg va_rf (w7r_36 hW)) ?_
        refine x_iconst dX7_again_35 cI_4 ?_
        refine x_iload_n dX7_again_36 rfl 1 rfl ?_
        refine x_imul dX7_again_37 ?_
        refine x_iload_n dX7_again_38 rfl 2 rfl ?_
        refine x_iadd dX7_again_39 ?_
        refine x_iconst dX7_again_40 cI_0 ?_
        obtain ⟨hv7, hw⟩ := hw
        refine x_zastN dX7_again_41 (w7k_36 hW) (w7z_36 hW) hv7 (Or.inl rfl) (fun σ8 hσ8 => ?_)
        replace hw := hw σ8 hσ8
        refine x_aload_n dX7_again_42 rfl 0 rfl ?_
        have hW := (xw7_a hσ8 hW)
        refine x_get (ci := 7) (k := 40) (v := .ref (a0 + 36)) dX7_again_43 wF_X7_116 (Nat.le_of_ble_eq_true rfl) (Nat.le_of_ble_eq_true rfl) hW.1 (congrArg va_rf (w7r_36 hW)) ?_
        refine x_iconst dX7_again_46 cI_4 ?_
        refine x_iload_n dX7_again_47 rfl 2 rfl ?_
        refine x_imul dX7_again_48 ?_
        refine x_iload_n dX7_again_49 rfl 1 rfl ?_
        refine x_iadd dX7_again_50 ?_
        refine x_iconst dX7_again_51 cI_0 ?_
        obtain ⟨hv9, hw⟩ := hw
        refine x_zastN dX7_again_52 (w7k_36 hW) (w7z_36 hW) hv9 (Or.inl rfl) (fun σ10 hσ10 => ?_)
        replace hw := hw σ10 hσ10
        refine x_iconst dX7_again_53 cI_1 ?_
        have hW := (xw7_a hσ10 hW)
        exact x_iret dX7_again_54 rfl ⟨1, rfl, hW, hw⟩
      · replace hw := hw.1 hc6
        refine x_bipush dX7_again_28 cB_m2 ?_
        exact x_iret dX7_again_30 rfl ⟨(-2), rfl, hW, hw⟩
    · replace hw := hw.1 hc4
      exact x_sub [0] rfl (xb_X7_again_13 hW hw)
-- PromiseWireModel.wire(II)I
def wb_X7_wire_52 (Q : Int32 → Prop) (K15 : Int32 → Int32 → Int32 → Int32 → Prop) (σ : xS) (a0 : Nat) (l1 : Int32) (l2 : Int32) (l4 : Int32) (s0 : Int32) (s1 : Int32) : Prop := K15 l1 l2 (s0 + s1) (l4 + 1)
set_option maxRecDepth 100000 in
set_option maxHeartbeats 4000000 in
theorem xb_X7_wire_52 {Q : Int32 → Prop} {K15 : Int32 → Int32 → Int32 → Int32 → Prop} {σ : xS} {a0 : Nat}  {l1 : Int32} {l2 : Int32} {l4 : Int32} {s0 : Int32} {s1 : Int32} (hW : xw7 σ a0)  (hK15 : ∀ (l1 : Int32) (l2 : Int32) (l3 : Int32) (l4 : Int32), K15 l1 l2 l3 l4 → xX M_X7_wire 15 [(0, .ref a0), (1, .int l1), (2, .int l2), (3, .int l3), (4, .int l4)] [] σ (xqI (fun r σ2 => σ = σ2 ∧ Q r ))) (hw : wb_X7_wire_52 Q K15 σ a0 l1 l2 l4 s0 s1) : xX M_X7_wire 52 [(0, .ref a0), (1, .int l1), (2, .int l2), (4, .int l4)] [.int s1, .int s0] σ (xqI (fun r σ2 => σ = σ2 ∧ Q r )) := by
  unfold wb_X7_wire_52 at hw
  refine x_iadd dX7_wire_52 ?_
  refine x_istore_n [(3, .int (s0 + s1)), (0, .ref a0), (1, .int l1), (2, .int l2), (4, .int l4)] dX7_wire_53 rfl (Nat.le_of_ble_eq_true rfl) rfl ?_
  refine x_iinc [(4, .int (l4 + 1)), (3, .int (s0 + s1)), (0, .ref a0), (1, .int l1), (2, .int l2)] dX7_wire_54 4 rfl (congrArg _ cI_1) (Nat.le_of_ble_eq_true rfl) rfl ?_
  refine x_goto 15 dX7_wire_57 rfl ?_
  exact x_sub [2, 3, 4, 1, 0] rfl (hK15 _ _ _ _ hw)
def wb_X7_wire_51 (Q : Int32 → Prop) (K15 : Int32 → Int32 → Int32 → Int32 → Prop) (σ : xS) (a0 : Nat) (l1 : Int32) (l2 : Int32) (l4 : Int32) (s0 : Int32) : Prop := wb_X7_wire_52 Q K15 σ a0 l1 l2 l4 s0 0
set_option maxRecDepth 100000 in
set_option maxHeartbeats 4000000 in
theorem xb_X7_wire_51 {Q : Int32 → Prop} {K15 : Int32 → Int32 → Int32 → Int32 → Prop} {σ : xS} {a0 : Nat}  {l1 : Int32} {l2 : Int32} {l4 : Int32} {s0 : Int32} (hW : xw7 σ a0)  (hK15 : ∀ (l1 : Int32) (l2 : Int32) (l3 : Int32) (l4 : Int32), K15 l1 l2 l3 l4 → xX M_X7_wire 15 [(0, .ref a0), (1, .int l1), (2, .int l2), (3, .int l3), (4, .int l4)] [] σ (xqI (fun r σ2 => σ = σ2 ∧ Q r ))) (hw : wb_X7_wire_51 Q K15 σ a0 l1 l2 l4 s0) : xX M_X7_wire 51 [(0, .ref a0), (1, .int l1), (2, .int l2), (4, .int l4)] [.int s0] σ (xqI (fun r σ2 => σ = σ2 ∧ Q r )) := by
  unfold wb_X7_wire_51 at hw
  refine x_iconst dX7_wire_51 cI_0 ?_
  exact x_sub [0, 1, 2, 3] rfl (xb_X7_wire_52 hW hK15 hw)
def wb_X7_wire_15 (Q : Int32 → Prop) (σ : xS) (a0 : Nat) : Nat → Int32 → Int32 → Int32 → Int32 → Prop
  | 0, _, _, _, _ => False
  | n + 1, l1, l2, l3, l4 => ((xh_I σ 478 a0) ≤ l4 → Q l3) ∧ (¬ (xh_I σ 478 a0) ≤ l4 → vp_in l4 400 ∧ (((xh_a σ (a0 + 28) l4.toNatClampNeg) = l1 → vp_in l4 400 ∧ (((xh_a σ (a0 + 29) l4.toNatClampNeg) = l2 → wb_X7_wire_52 Q (fun l1 l2 l3 l4 => wb_X7_wire_15 Q σ a0 n l1 l2 l3 l4) σ a0 l1 l2 l4 l3 1) ∧ (¬ (xh_a σ (a0 + 29) l4.toNatClampNeg) = l2 → wb_X7_wire_51 Q (fun l1 l2 l3 l4 => wb_X7_wire_15 Q σ a0 n l1 l2 l3 l4) σ a0 l1 l2 l4 l3))) ∧ (¬ (xh_a σ (a0 + 28) l4.toNatClampNeg) = l1 → wb_X7_wire_51 Q (fun l1 l2 l3 l4 => wb_X7_wire_15 Q σ a0 n l1 l2 l3 l4) σ a0 l1 l2 l4 l3)))
set_option maxRecDepth 100000 in
set_option maxHeartbeats 4000000 in
theorem xl_X7_wire_15 {Q : Int32 → Prop} {σ : xS} {a0 : Nat}  (hW : xw7 σ a0)  : ∀ (n : Nat) (l1 : Int32) (l2 : Int32) (l3 : Int32) (l4 : Int32), wb_X7_wire_15 Q σ a0 n l1 l2 l3 l4 → xX M_X7_wire 15 [(0, .ref a0), (1, .int l1), (2, .int l2), (3, .int l3), (4, .int l4)] [] σ (xqI (fun r σ2 => σ = σ2 ∧ Q r )) := by
  intro n
  induction n with
  | zero => intro l1 l2 l3 l4 hw; exact False.elim hw
  | succ n ih =>
    intro l1 l2 l3 l4 hw
    unfold wb_X7_wire_15 at hw
    refine x_iload dX7_wire_15 4 rfl ?_
    refine x_aload_n dX7_wire_17 rfl 0 rfl ?_
    refine x_get (ci := 7) (k := 30) (v := .int (xh_I σ 478 a0)) dX7_wire_18 wF_X7_147 (Nat.le_of_ble_eq_true rfl) (Nat.le_of_ble_eq_true rfl) hW.1 rfl ?_
    refine x_icmp_ge 60 dX7_wire_21 rfl (fun hc1 => ?_) (fun hc1 => ?_)
    · replace hw := hw.1 hc1
      refine x_iload_n dX7_wire_60 rfl 3 rfl ?_
      exact x_iret dX7_wire_61 rfl ⟨l3, rfl, rfl, hw⟩
    · replace hw := hw.2 hc1
      refine x_iload_n dX7_wire_24 rfl 3 rfl ?_
      refine x_aload_n dX7_wire_25 rfl 0 rfl ?_
      refine x_get (ci := 7) (k := 32) (v := .ref (a0 + 28)) dX7_wire_26 wF_X7_92 (Nat.le_of_ble_eq_true rfl) (Nat.le_of_ble_eq_true rfl) hW.1 (congrArg va_rf (w7r_28 hW)) ?_
      refine x_iload dX7_wire_29 4 rfl ?_
      obtain ⟨hv2, hw⟩ := hw
      refine x_ialdZ dX7_wire_31 (w7k_28 hW) (w7z_28 hW) hv2 ?_
      refine x_iload_n dX7_wire_32 rfl 1 rfl ?_
      refine x_icmp_ne 51 dX7_wire_33 rfl (fun hc3 => ?_) (fun hc3 => ?_)
      · replace hw := hw.2 hc3
        exact x_sub [0, 1, 2, 4] rfl (xb_X7_wire_51 hW ih hw)
      · replace hw := hw.1 hc3
        refine x_aload_n dX7_wire_36 rfl 0 rfl ?_
        refine x_get (ci := 7) (k := 33) (v := .ref (a0 + 29)) dX7_wire_37 wF_X7_95 (Nat.le_of_ble_eq_true rfl) (Nat.le_of_ble_eq_true rfl) hW.1 (congrArg va_rf (w7r_29 hW)) ?_
        refine x_iload dX7_wire_40 4 rfl ?_
        obtain ⟨hv4, hw⟩ := hw
        refine x_ialdZ dX7_wire_42 (w7k_29 hW) (w7z_29 hW) hv4 ?_
        refine x_iload_n dX7_wire_43 rfl 2 rfl ?_
        refine x_icmp_ne 51 dX7_wire_44 rfl (fun hc5 => ?_) (fun hc5 => ?_)
        · replace hw := hw.2 hc5
          exact x_sub [0, 1, 2, 4] rfl (xb_X7_wire_51 hW ih hw)
        · replace hw := hw.1 hc5
          refine x_iconst dX7_wire_47 cI_1 ?_
          refine x_goto 52 dX7_wire_48 rfl ?_
          exact x_sub [0, 1, 2, 4] rfl (xb_X7_wire_52 hW ih hw)
def wp_X7_wire (σ : xS) (a0 : Nat) (l1 : Int32) (l2 : Int32) (Q : Int32 → Prop) : Prop := wp_X7_areHouses σ l1 l2 (fun x6 => (x6 = 0 → Q (-1)) ∧ (¬ x6 = 0 → ∃ m15, wb_X7_wire_15 Q σ a0 m15 l1 l2 0 0))
set_option maxRecDepth 100000 in
set_option maxHeartbeats 4000000 in
theorem ct_X7_wire {σ : xS} {a0 : Nat}  {l1 : Int32} {l2 : Int32} {Q : Int32 → Prop} (hW : xw7 σ a0) (hw : wp_X7_wire σ a0 l1 l2 Q) : xCt M_X7_wire [.ref a0, .int l1, .int l2] σ (xqI (fun r σ2 => σ = σ2 ∧ Q r )) := by
  refine xCt_ofL (lv := [(0, .ref a0), (1, .int l1), (2, .int l2)]) pn_X7 (Nat.le_of_ble_eq_true rfl) rfl ?_
  unfold wp_X7_wire at hw
  refine x_iload_n dX7_wire_0 rfl 1 rfl ?_
  refine x_iload_n dX7_wire_1 rfl 2 rfl ?_
  refine x_callS (M2 := M_X7_areHouses) (As := [.int l1, .int l2]) (st := []) wM_X7_337 wZ_X7_areHouses dX7_wire_2 rfl ok_X7_areHouses ⟨(Nat.le_of_ble_eq_true rfl), (Nat.le_of_ble_eq_true rfl)⟩ (Nat.le_of_ble_eq_true rfl) (ct_X7_areHouses hw) (xqI.k (fun x6 τ7 hw2 => ?_))
  obtain ⟨he, hw⟩ := hw2
  subst he
  refine x_if_ne 10 dX7_wire_5 rfl (fun hc8 => ?_) (fun hc8 => ?_)
  · replace hw := hw.2 hc8
    refine x_iconst dX7_wire_10 cI_0 ?_
    refine x_istore_n [(3, .int 0), (0, .ref a0), (1, .int l1), (2, .int l2)] dX7_wire_11 rfl (Nat.le_of_ble_eq_true rfl) rfl ?_
    refine x_iconst dX7_wire_12 cI_0 ?_
    refine x_istore [(4, .int 0), (3, .int 0), (0, .ref a0), (1, .int l1), (2, .int l2)] dX7_wire_13 (Nat.le_of_ble_eq_true rfl) rfl ?_
    obtain ⟨m15, hw⟩ := hw
    exact x_sub [2, 3, 4, 1, 0] rfl (xl_X7_wire_15 hW m15 _ _ _ _ hw)
  · replace hw := hw.1 hc8
    refine x_iconst dX7_wire_8 cI_m1 ?_
    exact x_iret dX7_wire_9 rfl ⟨(-1), rfl, rfl, hw⟩
-- PromiseWireModel.letterOf(III)I
def wb_X7_letterOf_58 (Q : Int32 → Prop) (σ : xS) (a0 : Nat) : Prop := Q (-1)
set_option maxRecDepth 100000 in
set_option maxHeartbeats 4000000 in
theorem xb_X7_letterOf_58 {Q : Int32 → Prop} {σ : xS} {a0 : Nat}  (hW : xw7 σ a0)  (hw : wb_X7_letterOf_58 Q σ a0) : xX M_X7_letterOf 58 [(0, .ref a0)] [] σ (xqI (fun r σ2 => σ = σ2 ∧ Q r )) := by
  unfold wb_X7_letterOf_58 at hw
  refine x_iconst dX7_letterOf_58 cI_m1 ?_
  exact x_iret dX7_letterOf_59 rfl ⟨(-1), rfl, rfl, hw⟩
def wb_X7_letterOf_52 (Q : Int32 → Prop) (K6 : Int32 → Int32 → Int32 → Int32 → Int32 → Prop) (σ : xS) (a0 : Nat) (l1 : Int32) (l2 : Int32) (l3 : Int32) (l4 : Int32) (l5 : Int32) : Prop := K6 l1 l2 l3 l4 (l5 + 1)
set_option maxRecDepth 100000 in
set_option maxHeartbeats 4000000 in
theorem xb_X7_letterOf_52 {Q : Int32 → Prop} {K6 : Int32 → Int32 → Int32 → Int32 → Int32 → Prop} {σ : xS} {a0 : Nat}  {l1 : Int32} {l2 : Int32} {l3 : Int32} {l4 : Int32} {l5 : Int32} (hW : xw7 σ a0)  (hK6 : ∀ (l1 : Int32) (l2 : Int32) (l3 : Int32) (l4 : Int32) (l5 : Int32), K6 l1 l2 l3 l4 l5 → xX M_X7_letterOf 6 [(0, .ref a0), (1, .int l1), (2, .int l2), (3, .int l3), (4, .int l4), (5, .int l5)] [] σ (xqI (fun r σ2 => σ = σ2 ∧ Q r ))) (hw : wb_X7_letterOf_52 Q K6 σ a0 l1 l2 l3 l4 l5) : xX M_X7_letterOf 52 [(0, .ref a0), (1, .int l1), (2, .int l2), (3, .int l3), (4, .int l4), (5, .int l5)] [] σ (xqI (fun r σ2 => σ = σ2 ∧ Q r )) := by
  unfold wb_X7_letterOf_52 at hw
  refine x_iinc [(5, .int (l5 + 1)), (0, .ref a0), (1, .int l1), (2, .int l2), (3, .int l3), (4, .int l4)] dX7_letterOf_52 5 rfl (congrArg _ cI_1) (Nat.le_of_ble_eq_true rfl) rfl ?_
  refine x_goto 6 dX7_letterOf_55 rfl ?_
  exact x_sub [1, 2, 3, 4, 5, 0] rfl (hK6 _ _ _ _ _ hw)
def wb_X7_letterOf_6 (Q : Int32 → Prop) (σ : xS) (a0 : Nat) : Nat → Int32 → Int32 → Int32 → Int32 → Int32 → Prop
  | 0, _, _, _, _, _ => False
  | n + 1, l1, l2, l3, l4, l5 => ((xh_I σ 478 a0) ≤ l5 → wb_X7_letterOf_58 Q σ a0) ∧ (¬ (xh_I σ 478 a0) ≤ l5 → (l3 < 0 → wb_X7_letterOf_58 Q σ a0) ∧ (¬ l3 < 0 → vp_in l5 400 ∧ (((xh_a σ (a0 + 28) l5.toNatClampNeg) = l1 → vp_in l5 400 ∧ (((xh_a σ (a0 + 29) l5.toNatClampNeg) = l2 → (l4 = 0 → Q l5) ∧ (¬ l4 = 0 → wb_X7_letterOf_52 Q (fun l1 l2 l3 l4 l5 => wb_X7_letterOf_6 Q σ a0 n l1 l2 l3 l4 l5) σ a0 l1 l2 l3 (l4 + (-1)) l5)) ∧ (¬ (xh_a σ (a0 + 29) l5.toNatClampNeg) = l2 → wb_X7_letterOf_52 Q (fun l1 l2 l3 l4 l5 => wb_X7_letterOf_6 Q σ a0 n l1 l2 l3 l4 l5) σ a0 l1 l2 l3 l4 l5))) ∧ (¬ (xh_a σ (a0 + 28) l5.toNatClampNeg) = l1 → wb_X7_letterOf_52 Q (fun l1 l2 l3 l4 l5 => wb_X7_letterOf_6 Q σ a0 n l1 l2 l3 l4 l5) σ a0 l1 l2 l3 l4 l5))))
set_option maxRecDepth 100000 in
set_option maxHeartbeats 4000000 in
theorem xl_X7_letterOf_6 {Q : Int32 → Prop} {σ : xS} {a0 : Nat}  (hW : xw7 σ a0)  : ∀ (n : Nat) (l1 : Int32) (l2 : Int32) (l3 : Int32) (l4 : Int32) (l5 : Int32), wb_X7_letterOf_6 Q σ a0 n l1 l2 l3 l4 l5 → xX M_X7_letterOf 6 [(0, .ref a0), (1, .int l1), (2, .int l2), (3, .int l3), (4, .int l4), (5, .int l5)] [] σ (xqI (fun r σ2 => σ = σ2 ∧ Q r )) := by
  intro n
  induction n with
  | zero => intro l1 l2 l3 l4 l5 hw; exact False.elim hw
  | succ n ih =>
    intro l1 l2 l3 l4 l5 hw
    unfold wb_X7_letterOf_6 at hw
    refine x_iload dX7_letterOf_6 5 rfl ?_
    refine x_aload_n dX7_letterOf_8 rfl 0 rfl ?_
    refine x_get (ci := 7) (k := 30) (v := .int (xh_I σ 478 a0)) dX7_letterOf_9 wF_X7_147 (Nat.le_of_ble_eq_true rfl) (Nat.le_of_ble_eq_true rfl) hW.1 rfl ?_
    refine x_icmp_ge 58 dX7_letterOf_12 rfl (fun hc1 => ?_) (fun hc1 => ?_)
    · replace hw := hw.1 hc1
      exact x_sub [0] rfl (xb_X7_letterOf_58 hW hw)
    · replace hw := hw.2 hc1
      refine x_iload_n dX7_letterOf_15 rfl 3 rfl ?_
      refine x_if_lt 58 dX7_letterOf_16 rfl (fun hc2 => ?_) (fun hc2 => ?_)
      · replace hw := hw.1 hc2
        exact x_sub [0] rfl (xb_X7_letterOf_58 hW hw)
      · replace hw := hw.2 hc2
        refine x_aload_n dX7_letterOf_19 rfl 0 rfl ?_
        refine x_get (ci := 7) (k := 32) (v := .ref (a0 + 28)) dX7_letterOf_20 wF_X7_92 (Nat.le_of_ble_eq_true rfl) (Nat.le_of_ble_eq_true rfl) hW.1 (congrArg va_rf (w7r_28 hW)) ?_
        refine x_iload dX7_letterOf_23 5 rfl ?_
        obtain ⟨hv3, hw⟩ := hw
        refine x_ialdZ dX7_letterOf_25 (w7k_28 hW) (w7z_28 hW) hv3 ?_
        refine x_iload_n dX7_letterOf_26 rfl 1 rfl ?_
        refine x_icmp_ne 52 dX7_letterOf_27 rfl (fun hc4 => ?_) (fun hc4 => ?_)
        · replace hw := hw.2 hc4
          exact x_sub [0, 1, 2, 3, 4, 5] rfl (xb_X7_letterOf_52 hW ih hw)
        · replace hw := hw.1 hc4
          refine x_aload_n dX7_letterOf_30 rfl 0 rfl ?_
          refine x_get (ci := 7) (k := 33) (v := .ref (a0 + 29)) dX7_letterOf_31 wF_X7_95 (Nat.le_of_ble_eq_true rfl) (Nat.le_of_ble_eq_true rfl) hW.1 (congrArg va_rf (w7r_29 hW)) ?_
          refine x_iload dX7_letterOf_34 5 rfl ?_
          obtain ⟨hv5, hw⟩ := hw
          refine x_ialdZ dX7_letterOf_36 (w7k_29 hW) (w7z_29 hW) hv5 ?_
          refine x_iload_n dX7_letterOf_37 rfl 2 rfl ?_
          refine x_icmp_ne 52 dX7_letterOf_38 rfl (fun hc6 => ?_) (fun hc6 => ?_)
          · replace hw := hw.2 hc6
            exact x_sub [0, 1, 2, 3, 4, 5] rfl (xb_X7_letterOf_52 hW ih hw)
          · replace hw := hw.1 hc6
            refine x_iload dX7_letterOf_41 4 rfl ?_
            refine x_if_ne 49 dX7_letterOf_43 rfl (fun hc7 => ?_) (fun hc7 => ?_)
            · replace hw := hw.2 hc7
              refine x_iinc [(4, .int (l4 + (-1))), (0, .ref a0), (1, .int l1), (2, .int l2), (3, .int l3), (5, .int l5)] dX7_letterOf_49 4 rfl (congrArg _ cI_m1) (Nat.le_of_ble_eq_true rfl) rfl ?_
              exact x_sub [1, 2, 3, 4, 0, 5] rfl (xb_X7_letterOf_52 hW ih hw)
            · replace hw := hw.1 hc7
              refine x_iload dX7_letterOf_46 5 rfl ?_
              exact x_iret dX7_letterOf_48 rfl ⟨l5, rfl, rfl, hw⟩
def wp_X7_letterOf (σ : xS) (a0 : Nat) (l1 : Int32) (l2 : Int32) (l3 : Int32) (Q : Int32 → Prop) : Prop := ∃ m6, wb_X7_letterOf_6 Q σ a0 m6 l1 l2 l3 l3 0
set_option maxRecDepth 100000 in
set_option maxHeartbeats 4000000 in
theorem ct_X7_letterOf {σ : xS} {a0 : Nat}  {l1 : Int32} {l2 : Int32} {l3 : Int32} {Q : Int32 → Prop} (hW : xw7 σ a0) (hw : wp_X7_letterOf σ a0 l1 l2 l3 Q) : xCt M_X7_letterOf [.ref a0, .int l1, .int l2, .int l3] σ (xqI (fun r σ2 => σ = σ2 ∧ Q r )) := by
  refine xCt_ofL (lv := [(0, .ref a0), (1, .int l1), (2, .int l2), (3, .int l3)]) pn_X7 (Nat.le_of_ble_eq_true rfl) rfl ?_
  unfold wp_X7_letterOf at hw
  refine x_iload_n dX7_letterOf_0 rfl 3 rfl ?_
  refine x_istore [(4, .int l3), (0, .ref a0), (1, .int l1), (2, .int l2), (3, .int l3)] dX7_letterOf_1 (Nat.le_of_ble_eq_true rfl) rfl ?_
  refine x_iconst dX7_letterOf_3 cI_0 ?_
  refine x_istore [(5, .int 0), (4, .int l3), (0, .ref a0), (1, .int l1), (2, .int l2), (3, .int l3)] dX7_letterOf_4 (Nat.le_of_ble_eq_true rfl) rfl ?_
  obtain ⟨m6, hw⟩ := hw
  exact x_sub [2, 3, 4, 5, 1, 0] rfl (xl_X7_letterOf_6 hW m6 _ _ _ _ _ hw)
-- PromiseWireModel.letter(IIII)I
def wb_X7_letter_186 (Q : Int32 → Prop) (σ : xS) (a0 : Nat) (s0 : Int32) : Prop := Q s0
set_option maxRecDepth 100000 in
set_option maxHeartbeats 4000000 in
theorem xb_X7_letter_186 {Q : Int32 → Prop} {σ : xS} {a0 : Nat}  {s0 : Int32} (hW : xw7 σ a0)  (hw : wb_X7_letter_186 Q σ a0 s0) : xX M_X7_letter 186 [(0, .ref a0)] [.int s0] σ (xqI (fun r σ2 => σ = σ2 ∧ Q r )) := by
  unfold wb_X7_letter_186 at hw
  exact x_iret dX7_letter_186 rfl ⟨s0, rfl, rfl, hw⟩
def wb_X7_letter_137 (Q : Int32 → Prop) (σ : xS) (a0 : Nat) (s0 : Int32) : Prop := Q s0
set_option maxRecDepth 100000 in
set_option maxHeartbeats 4000000 in
theorem xb_X7_letter_137 {Q : Int32 → Prop} {σ : xS} {a0 : Nat}  {s0 : Int32} (hW : xw7 σ a0)  (hw : wb_X7_letter_137 Q σ a0 s0) : xX M_X7_letter 137 [(0, .ref a0)] [.int s0] σ (xqI (fun r σ2 => σ = σ2 ∧ Q r )) := by
  unfold wb_X7_letter_137 at hw
  exact x_iret dX7_letter_137 rfl ⟨s0, rfl, rfl, hw⟩
def wb_X7_letter_18 (Q : Int32 → Prop) (σ : xS) (a0 : Nat) : Prop := Q (-1)
set_option maxRecDepth 100000 in
set_option maxHeartbeats 4000000 in
theorem xb_X7_letter_18 {Q : Int32 → Prop} {σ : xS} {a0 : Nat}  (hW : xw7 σ a0)  (hw : wb_X7_letter_18 Q σ a0) : xX M_X7_letter 18 [(0, .ref a0)] [] σ (xqI (fun r σ2 => σ = σ2 ∧ Q r )) := by
  unfold wb_X7_letter_18 at hw
  refine x_iconst dX7_letter_18 cI_m1 ?_
  exact x_iret dX7_letter_19 rfl ⟨(-1), rfl, rfl, hw⟩
def wp_X7_letter (σ : xS) (a0 : Nat) (l1 : Int32) (l2 : Int32) (l3 : Int32) (l4 : Int32) (Q : Int32 → Prop) : Prop := wp_X7_areHouses σ l1 l2 (fun x1 => (x1 = 0 → wb_X7_letter_18 Q σ a0) ∧ (¬ x1 = 0 → wp_X7_in σ l4 0 5 (fun x4 => (x4 = 0 → wb_X7_letter_18 Q σ a0) ∧ (¬ x4 = 0 → wp_X7_letterOf σ a0 l1 l2 l3 (fun x7 => (0 ≤ x7 → vp_in x7 400 ∧ ((l4 = 0 → vp_in x7 400 ∧ (Q (xh_a σ (a0 + 27) x7.toNatClampNeg))) ∧ (¬ l4 = 0 → (l4 = 1 → Q (xh_a σ (a0 + 30) x7.toNatClampNeg)) ∧ (¬ l4 = 1 → (l4 = 2 → vp_in x7 400 ∧ (((xh_a σ (a0 + 27) x7.toNatClampNeg) = 0 → vp_in (xh_a σ (a0 + 30) x7.toNatClampNeg) 100 ∧ (wb_X7_letter_137 Q σ a0 (xh_a σ (a0 + 17) (xh_a σ (a0 + 30) x7.toNatClampNeg).toNatClampNeg))) ∧ (¬ (xh_a σ (a0 + 27) x7.toNatClampNeg) = 0 → vp_in x7 400 ∧ (((xh_a σ (a0 + 27) x7.toNatClampNeg) = 1 → vp_in x7 400 ∧ (wb_X7_letter_137 Q σ a0 (xh_a σ (a0 + 33) x7.toNatClampNeg))) ∧ (¬ (xh_a σ (a0 + 27) x7.toNatClampNeg) = 1 → wb_X7_letter_137 Q σ a0 2))))) ∧ (¬ l4 = 2 → (l4 = 3 → vp_in x7 400 ∧ (((xh_a σ (a0 + 27) x7.toNatClampNeg) = 0 → vp_in (xh_a σ (a0 + 30) x7.toNatClampNeg) 100 ∧ (wb_X7_letter_186 Q σ a0 (xh_a σ (a0 + 18) (xh_a σ (a0 + 30) x7.toNatClampNeg).toNatClampNeg))) ∧ (¬ (xh_a σ (a0 + 27) x7.toNatClampNeg) = 0 → vp_in x7 400 ∧ (((xh_a σ (a0 + 27) x7.toNatClampNeg) = 1 → vp_in x7 400 ∧ (wb_X7_letter_186 Q σ a0 (xh_a σ (a0 + 34) x7.toNatClampNeg))) ∧ (¬ (xh_a σ (a0 + 27) x7.toNatClampNeg) = 1 → vp_in x7 400 ∧ (wb_X7_letter_186 Q σ a0 (xh_a σ (a0 + 33) x7.toNatClampNeg))))))) ∧ (¬ l4 = 3 → (l4 = 4 → vp_in x7 400 ∧ (Q (xh_a σ (a0 + 31) x7.toNatClampNeg))) ∧ (¬ l4 = 4 → vp_in x7 400 ∧ (Q (xh_a σ (a0 + 32) x7.toNatClampNeg))))))))) ∧ (¬ 0 ≤ x7 → Q (-9)))))))
set_option maxRecDepth 100000 in
set_option maxHeartbeats 4000000 in
theorem ct_X7_letter {σ : xS} {a0 : Nat}  {l1 : Int32} {l2 : Int32} {l3 : Int32} {l4 : Int32} {Q : Int32 → Prop} (hW : xw7 σ a0) (hw : wp_X7_letter σ a0 l1 l2 l3 l4 Q) : xCt M_X7_letter [.ref a0, .int l1, .int l2, .int l3, .int l4] σ (xqI (fun r σ2 => σ = σ2 ∧ Q r )) := by
  refine xCt_ofL (lv := [(0, .ref a0), (1, .int l1), (2, .int l2), (3, .int l3), (4, .int l4)]) pn_X7 (Nat.le_of_ble_eq_true rfl) rfl ?_
  unfold wp_X7_letter at hw
  refine x_iload_n dX7_letter_0 rfl 1 rfl ?_
  refine x_iload_n dX7_letter_1 rfl 2 rfl ?_
  refine x_callS (M2 := M_X7_areHouses) (As := [.int l1, .int l2]) (st := []) wM_X7_337 wZ_X7_areHouses dX7_letter_2 rfl ok_X7_areHouses ⟨(Nat.le_of_ble_eq_true rfl), (Nat.le_of_ble_eq_true rfl)⟩ (Nat.le_of_ble_eq_true rfl) (ct_X7_areHouses hw) (xqI.k (fun x1 τ2 hw2 => ?_))
  obtain ⟨he, hw⟩ := hw2
  subst he
  refine x_if_eq 18 dX7_letter_5 rfl (fun hc3 => ?_) (fun hc3 => ?_)
  · replace hw := hw.1 hc3
    exact x_sub [0] rfl (xb_X7_letter_18 hW hw)
  · replace hw := hw.2 hc3
    refine x_iload dX7_letter_8 4 rfl ?_
    refine x_iconst dX7_letter_10 cI_0 ?_
    refine x_iconst dX7_letter_11 cI_5 ?_
    refine x_callS (M2 := M_X7_in) (As := [.int l4, .int 0, .int 5]) (st := []) wM_X7_132 wZ_X7_in dX7_letter_12 rfl ok_X7_in ⟨(Nat.le_of_ble_eq_true rfl), (Nat.le_of_ble_eq_true rfl)⟩ (Nat.le_of_ble_eq_true rfl) (ct_X7_in hw) (xqI.k (fun x4 τ5 hw2 => ?_))
    obtain ⟨he, hw⟩ := hw2
    subst he
    refine x_if_ne 20 dX7_letter_15 rfl (fun hc6 => ?_) (fun hc6 => ?_)
    · replace hw := hw.2 hc6
      refine x_aload_n dX7_letter_20 rfl 0 rfl ?_
      refine x_iload_n dX7_letter_21 rfl 1 rfl ?_
      refine x_iload_n dX7_letter_22 rfl 2 rfl ?_
      refine x_iload_n dX7_letter_23 rfl 3 rfl ?_
      refine x_callV (M2 := M_X7_letterOf) (As := [.int l1, .int l2, .int l3]) (st := []) (ci := 7) (Nat.le_of_ble_eq_true rfl) hW.1 rfl wM_X7_349 wI_X7_letterOf wS_X7_letterOf dX7_letter_24 rfl ok_X7_letterOf ⟨(Nat.le_of_ble_eq_true rfl), (Nat.le_of_ble_eq_true rfl)⟩ (Nat.le_of_ble_eq_true rfl) (ct_X7_letterOf hW hw) (xqI.k (fun x7 τ8 hw2 => ?_))
      obtain ⟨he, hw⟩ := hw2
      subst he
      refine x_istore [(5, .int x7), (0, .ref a0), (1, .int l1), (2, .int l2), (3, .int l3), (4, .int l4)] dX7_letter_27 (Nat.le_of_ble_eq_true rfl) rfl ?_
      refine x_iload dX7_letter_29 0 rfl ?_
      refine x_if_ge 37 dX7_letter_31 rfl (fun hc9 => ?_) (fun hc9 => ?_)
      · replace hw := hw.1 hc9
        refine x_aload_n dX7_letter_37 rfl 1 rfl ?_
        refine x_get (ci := 7) (k := 34) (v := .ref (a0 + 30)) dX7_letter_38 wF_X7_98 (Nat.le_of_ble_eq_true rfl) (Nat.le_of_ble_eq_true rfl) hW.1 (congrArg va_rf (w7r_30 hW)) ?_
        refine x_iload dX7_letter_41 0 rfl ?_
        obtain ⟨hv10, hw⟩ := hw
        refine x_ialdZ dX7_letter_43 (w7k_30 hW) (w7z_30 hW) hv10 ?_
        refine x_istore [(6, .int (xh_a σ (a0 + 30) x7.toNatClampNeg)), (5, .int x7), (0, .ref a0), (1, .int l1), (2, .int l2), (3, .int l3), (4, .int l4)] dX7_letter_44 (Nat.le_of_ble_eq_true rfl) rfl ?_
        refine x_iload dX7_letter_46 6 rfl ?_
        by_cases hc11 : l4 = 0
        · replace hw := hw.1 hc11
          refine x_tableIn (off := 36) 84 dX7_letter_48 (by rw [hc11]; decide) (by rw [hc11]; decide) (by rw [hc11]; rfl) rfl ?_
          refine x_aload_n dX7_letter_84 rfl 2 rfl ?_
          refine x_get (ci := 7) (k := 31) (v := .ref (a0 + 27)) dX7_letter_85 wF_X7_89 (Nat.le_of_ble_eq_true rfl) (Nat.le_of_ble_eq_true rfl) hW.1 (congrArg va_rf (w7r_27 hW)) ?_
          refine x_iload dX7_letter_88 1 rfl ?_
          obtain ⟨hv12, hw⟩ := hw
          refine x_ialdZ dX7_letter_90 (w7k_27 hW) (w7z_27 hW) hv12 ?_
          exact x_iret dX7_letter_91 rfl ⟨(xh_a σ (a0 + 27) x7.toNatClampNeg), rfl, rfl, hw⟩
        · replace hw := hw.2 hc11
          by_cases hc13 : l4 = 1
          · replace hw := hw.1 hc13
            refine x_tableIn (off := 44) 92 dX7_letter_48 (by rw [hc13]; decide) (by rw [hc13]; decide) (by rw [hc13]; rfl) rfl ?_
            refine x_iload dX7_letter_92 0 rfl ?_
            exact x_iret dX7_letter_94 rfl ⟨(xh_a σ (a0 + 30) x7.toNatClampNeg), rfl, rfl, hw⟩
          · replace hw := hw.2 hc13
            by_cases hc14 : l4 = 2
            · replace hw := hw.1 hc14
              refine x_tableIn (off := 47) 95 dX7_letter_48 (by rw [hc14]; decide) (by rw [hc14]; decide) (by rw [hc14]; rfl) rfl ?_
              refine x_aload_n dX7_letter_95 rfl 2 rfl ?_
              refine x_get (ci := 7) (k := 31) (v := .ref (a0 + 27)) dX7_letter_96 wF_X7_89 (Nat.le_of_ble_eq_true rfl) (Nat.le_of_ble_eq_true rfl) hW.1 (congrArg va_rf (w7r_27 hW)) ?_
              refine x_iload dX7_letter_99 1 rfl ?_
              obtain ⟨hv15, hw⟩ := hw
              refine x_ialdZ dX7_letter_101 (w7k_27 hW) (w7z_27 hW) hv15 ?_
              refine x_if_ne 115 dX7_letter_102 rfl (fun hc16 => ?_) (fun hc16 => ?_)
              · replace hw := hw.2 hc16
                refine x_aload_n dX7_letter_115 rfl 2 rfl ?_
                refine x_get (ci := 7) (k := 31) (v := .ref (a0 + 27)) dX7_letter_116 wF_X7_89 (Nat.le_of_ble_eq_true rfl) (Nat.le_of_ble_eq_true rfl) hW.1 (congrArg va_rf (w7r_27 hW)) ?_
                refine x_iload dX7_letter_119 1 rfl ?_
                obtain ⟨hv17, hw⟩ := hw
                refine x_ialdZ dX7_letter_121 (w7k_27 hW) (w7z_27 hW) hv17 ?_
                refine x_iconst dX7_letter_122 cI_1 ?_
                refine x_icmp_ne 136 dX7_letter_123 rfl (fun hc18 => ?_) (fun hc18 => ?_)
                · replace hw := hw.2 hc18
                  refine x_iconst dX7_letter_136 cI_2 ?_
                  exact x_sub [2] rfl (xb_X7_letter_137 hW hw)
                · replace hw := hw.1 hc18
                  refine x_aload_n dX7_letter_126 rfl 2 rfl ?_
                  refine x_get (ci := 7) (k := 37) (v := .ref (a0 + 33)) dX7_letter_127 wF_X7_107 (Nat.le_of_ble_eq_true rfl) (Nat.le_of_ble_eq_true rfl) hW.1 (congrArg va_rf (w7r_33 hW)) ?_
                  refine x_iload dX7_letter_130 1 rfl ?_
                  obtain ⟨hv19, hw⟩ := hw
                  refine x_ialdZ dX7_letter_132 (w7k_33 hW) (w7z_33 hW) hv19 ?_
                  refine x_goto 137 dX7_letter_133 rfl ?_
                  exact x_sub [2] rfl (xb_X7_letter_137 hW hw)
              · replace hw := hw.1 hc16
                refine x_aload_n dX7_letter_105 rfl 2 rfl ?_
                refine x_get (ci := 7) (k := 18) (v := .ref (a0 + 17)) dX7_letter_106 wF_X7_59 (Nat.le_of_ble_eq_true rfl) (Nat.le_of_ble_eq_true rfl) hW.1 (congrArg va_rf (w7r_17 hW)) ?_
                refine x_iload dX7_letter_109 0 rfl ?_
                obtain ⟨hv20, hw⟩ := hw
                refine x_ialdZ dX7_letter_111 (w7k_17 hW) (w7z_17 hW) hv20 ?_
                refine x_goto 137 dX7_letter_112 rfl ?_
                exact x_sub [2] rfl (xb_X7_letter_137 hW hw)
            · replace hw := hw.2 hc14
              by_cases hc21 : l4 = 3
              · replace hw := hw.1 hc21
                refine x_tableIn (off := 90) 138 dX7_letter_48 (by rw [hc21]; decide) (by rw [hc21]; decide) (by rw [hc21]; rfl) rfl ?_
                refine x_aload_n dX7_letter_138 rfl 2 rfl ?_
                refine x_get (ci := 7) (k := 31) (v := .ref (a0 + 27)) dX7_letter_139 wF_X7_89 (Nat.le_of_ble_eq_true rfl) (Nat.le_of_ble_eq_true rfl) hW.1 (congrArg va_rf (w7r_27 hW)) ?_
                refine x_iload dX7_letter_142 1 rfl ?_
                obtain ⟨hv22, hw⟩ := hw
                refine x_ialdZ dX7_letter_144 (w7k_27 hW) (w7z_27 hW) hv22 ?_
                refine x_if_ne 158 dX7_letter_145 rfl (fun hc23 => ?_) (fun hc23 => ?_)
                · replace hw := hw.2 hc23
                  refine x_aload_n dX7_letter_158 rfl 2 rfl ?_
                  refine x_get (ci := 7) (k := 31) (v := .ref (a0 + 27)) dX7_letter_159 wF_X7_89 (Nat.le_of_ble_eq_true rfl) (Nat.le_of_ble_eq_true rfl) hW.1 (congrArg va_rf (w7r_27 hW)) ?_
                  refine x_iload dX7_letter_162 1 rfl ?_
                  obtain ⟨hv24, hw⟩ := hw
                  refine x_ialdZ dX7_letter_164 (w7k_27 hW) (w7z_27 hW) hv24 ?_
                  refine x_iconst dX7_letter_165 cI_1 ?_
                  refine x_icmp_ne 179 dX7_letter_166 rfl (fun hc25 => ?_) (fun hc25 => ?_)
                  · replace hw := hw.2 hc25
                    refine x_aload_n dX7_letter_179 rfl 2 rfl ?_
                    refine x_get (ci := 7) (k := 37) (v := .ref (a0 + 33)) dX7_letter_180 wF_X7_107 (Nat.le_of_ble_eq_true rfl) (Nat.le_of_ble_eq_true rfl) hW.1 (congrArg va_rf (w7r_33 hW)) ?_
                    refine x_iload dX7_letter_183 1 rfl ?_
                    obtain ⟨hv26, hw⟩ := hw
                    refine x_ialdZ dX7_letter_185 (w7k_33 hW) (w7z_33 hW) hv26 ?_
                    exact x_sub [2] rfl (xb_X7_letter_186 hW hw)
                  · replace hw := hw.1 hc25
                    refine x_aload_n dX7_letter_169 rfl 2 rfl ?_
                    refine x_get (ci := 7) (k := 38) (v := .ref (a0 + 34)) dX7_letter_170 wF_X7_110 (Nat.le_of_ble_eq_true rfl) (Nat.le_of_ble_eq_true rfl) hW.1 (congrArg va_rf (w7r_34 hW)) ?_
                    refine x_iload dX7_letter_173 1 rfl ?_
                    obtain ⟨hv27, hw⟩ := hw
                    refine x_ialdZ dX7_letter_175 (w7k_34 hW) (w7z_34 hW) hv27 ?_
                    refine x_goto 186 dX7_letter_176 rfl ?_
                    exact x_sub [2] rfl (xb_X7_letter_186 hW hw)
                · replace hw := hw.1 hc23
                  refine x_aload_n dX7_letter_148 rfl 2 rfl ?_
                  refine x_get (ci := 7) (k := 19) (v := .ref (a0 + 18)) dX7_letter_149 wF_X7_62 (Nat.le_of_ble_eq_true rfl) (Nat.le_of_ble_eq_true rfl) hW.1 (congrArg va_rf (w7r_18 hW)) ?_
                  refine x_iload dX7_letter_152 0 rfl ?_
                  obtain ⟨hv28, hw⟩ := hw
                  refine x_ialdZ dX7_letter_154 (w7k_18 hW) (w7z_18 hW) hv28 ?_
                  refine x_goto 186 dX7_letter_155 rfl ?_
                  exact x_sub [2] rfl (xb_X7_letter_186 hW hw)
              · replace hw := hw.2 hc21
                by_cases hc29 : l4 = 4
                · replace hw := hw.1 hc29
                  refine x_tableIn (off := 139) 187 dX7_letter_48 (by rw [hc29]; decide) (by rw [hc29]; decide) (by rw [hc29]; rfl) rfl ?_
                  refine x_aload_n dX7_letter_187 rfl 2 rfl ?_
                  refine x_get (ci := 7) (k := 35) (v := .ref (a0 + 31)) dX7_letter_188 wF_X7_101 (Nat.le_of_ble_eq_true rfl) (Nat.le_of_ble_eq_true rfl) hW.1 (congrArg va_rf (w7r_31 hW)) ?_
                  refine x_iload dX7_letter_191 1 rfl ?_
                  obtain ⟨hv30, hw⟩ := hw
                  refine x_ialdZ dX7_letter_193 (w7k_31 hW) (w7z_31 hW) hv30 ?_
                  exact x_iret dX7_letter_194 rfl ⟨(xh_a σ (a0 + 31) x7.toNatClampNeg), rfl, rfl, hw⟩
                · replace hw := hw.2 hc29
                  refine x_tableOut 195 dX7_letter_48 (xsw_0_4 hc11 hc13 hc14 hc21 hc29) rfl ?_
                  refine x_aload_n dX7_letter_195 rfl 2 rfl ?_
                  refine x_get (ci := 7) (k := 36) (v := .ref (a0 + 32)) dX7_letter_196 wF_X7_104 (Nat.le_of_ble_eq_true rfl) (Nat.le_of_ble_eq_true rfl) hW.1 (congrArg va_rf (w7r_32 hW)) ?_
                  refine x_iload dX7_letter_199 1 rfl ?_
                  obtain ⟨hv31, hw⟩ := hw
                  refine x_ialdZ dX7_letter_201 (w7k_32 hW) (w7z_32 hW) hv31 ?_
                  exact x_iret dX7_letter_202 rfl ⟨(xh_a σ (a0 + 32) x7.toNatClampNeg), rfl, rfl, hw⟩
      · replace hw := hw.2 hc9
        refine x_bipush dX7_letter_34 cB_m9 ?_
        exact x_iret dX7_letter_36 rfl ⟨(-9), rfl, rfl, hw⟩
    · replace hw := hw.1 hc6
      exact x_sub [0] rfl (xb_X7_letter_18 hW hw)
-- PromiseWireModel.purses()J
def wb_X7_purses_92 (Q : Int64 → Prop) (K44 : Int64 → Int32 → Prop) (σ : xS) (a0 : Nat) (l3 : Int32) (s0 : Int64) (s1 : Int64) : Prop := K44 (s0 + s1) (l3 + 1)
set_option maxRecDepth 100000 in
set_option maxHeartbeats 4000000 in
theorem xb_X7_purses_92 {Q : Int64 → Prop} {K44 : Int64 → Int32 → Prop} {σ : xS} {a0 : Nat}  {l3 : Int32} {s0 : Int64} {s1 : Int64} (hW : xw7 σ a0)  (hK44 : ∀ (l1 : Int64) (l3 : Int32), K44 l1 l3 → xX M_X7_purses 44 [(0, .ref a0), (1, .long l1), (3, .int l3)] [] σ (xqL (fun r σ2 => σ = σ2 ∧ Q r ))) (hw : wb_X7_purses_92 Q K44 σ a0 l3 s0 s1) : xX M_X7_purses 92 [(0, .ref a0), (3, .int l3)] [.long s1, .long s0] σ (xqL (fun r σ2 => σ = σ2 ∧ Q r )) := by
  unfold wb_X7_purses_92 at hw
  refine x_ladd dX7_purses_92 ?_
  refine x_lstore_n [(1, .long (s0 + s1)), (0, .ref a0), (3, .int l3)] dX7_purses_93 rfl (Nat.le_of_ble_eq_true rfl) rfl ?_
  refine x_iinc [(3, .int (l3 + 1)), (1, .long (s0 + s1)), (0, .ref a0)] dX7_purses_94 2 rfl (congrArg _ cI_1) (Nat.le_of_ble_eq_true rfl) rfl ?_
  refine x_goto 44 dX7_purses_97 rfl ?_
  exact x_sub [2, 1, 0] rfl (hK44 _ _ hw)
def wb_X7_purses_91 (Q : Int64 → Prop) (K44 : Int64 → Int32 → Prop) (σ : xS) (a0 : Nat) (l3 : Int32) (s0 : Int64) : Prop := wb_X7_purses_92 Q K44 σ a0 l3 s0 0
set_option maxRecDepth 100000 in
set_option maxHeartbeats 4000000 in
theorem xb_X7_purses_91 {Q : Int64 → Prop} {K44 : Int64 → Int32 → Prop} {σ : xS} {a0 : Nat}  {l3 : Int32} {s0 : Int64} (hW : xw7 σ a0)  (hK44 : ∀ (l1 : Int64) (l3 : Int32), K44 l1 l3 → xX M_X7_purses 44 [(0, .ref a0), (1, .long l1), (3, .int l3)] [] σ (xqL (fun r σ2 => σ = σ2 ∧ Q r ))) (hw : wb_X7_purses_91 Q K44 σ a0 l3 s0) : xX M_X7_purses 91 [(0, .ref a0), (3, .int l3)] [.long s0] σ (xqL (fun r σ2 => σ = σ2 ∧ Q r )) := by
  unfold wb_X7_purses_91 at hw
  refine x_lconst dX7_purses_91 cL_0 ?_
  exact x_sub [0, 1] rfl (xb_X7_purses_92 hW hK44 hw)
def wb_X7_purses_44 (Q : Int64 → Prop) (σ : xS) (a0 : Nat) : Nat → Int64 → Int32 → Prop
  | 0, _, _ => False
  | n + 1, l1, l3 => ((xh_I σ 478 a0) ≤ l3 → Q l1) ∧ (¬ (xh_I σ 478 a0) ≤ l3 → vp_in l3 400 ∧ (((xh_a σ (a0 + 27) l3.toNatClampNeg) = 0 → vp_in l3 400 ∧ (vp_in (xh_a σ (a0 + 30) l3.toNatClampNeg) 100 ∧ (((xh_a σ (a0 + 20) (xh_a σ (a0 + 30) l3.toNatClampNeg).toNatClampNeg) < 0 → wb_X7_purses_91 Q (fun l1 l3 => wb_X7_purses_44 Q σ a0 n l1 l3) σ a0 l3 l1) ∧ (¬ (xh_a σ (a0 + 20) (xh_a σ (a0 + 30) l3.toNatClampNeg).toNatClampNeg) < 0 → vp_in l3 400 ∧ (vp_in (xh_a σ (a0 + 30) l3.toNatClampNeg) 100 ∧ (wb_X7_purses_92 Q (fun l1 l3 => wb_X7_purses_44 Q σ a0 n l1 l3) σ a0 l3 l1 ((xh_a σ (a0 + 18) (xh_a σ (a0 + 30) l3.toNatClampNeg).toNatClampNeg).toInt64))))))) ∧ (¬ (xh_a σ (a0 + 27) l3.toNatClampNeg) = 0 → wb_X7_purses_91 Q (fun l1 l3 => wb_X7_purses_44 Q σ a0 n l1 l3) σ a0 l3 l1)))
set_option maxRecDepth 100000 in
set_option maxHeartbeats 4000000 in
theorem xl_X7_purses_44 {Q : Int64 → Prop} {σ : xS} {a0 : Nat}  (hW : xw7 σ a0)  : ∀ (n : Nat) (l1 : Int64) (l3 : Int32), wb_X7_purses_44 Q σ a0 n l1 l3 → xX M_X7_purses 44 [(0, .ref a0), (1, .long l1), (3, .int l3)] [] σ (xqL (fun r σ2 => σ = σ2 ∧ Q r )) := by
  intro n
  induction n with
  | zero => intro l1 l3 hw; exact False.elim hw
  | succ n ih =>
    intro l1 l3 hw
    unfold wb_X7_purses_44 at hw
    refine x_iload_n dX7_purses_44 rfl 2 rfl ?_
    refine x_aload_n dX7_purses_45 rfl 0 rfl ?_
    refine x_get (ci := 7) (k := 30) (v := .int (xh_I σ 478 a0)) dX7_purses_46 wF_X7_147 (Nat.le_of_ble_eq_true rfl) (Nat.le_of_ble_eq_true rfl) hW.1 rfl ?_
    refine x_icmp_ge 100 dX7_purses_49 rfl (fun hc1 => ?_) (fun hc1 => ?_)
    · replace hw := hw.1 hc1
      refine x_lload_n dX7_purses_100 rfl 1 rfl ?_
      exact x_lret dX7_purses_101 rfl ⟨l1, rfl, rfl, hw⟩
    · replace hw := hw.2 hc1
      refine x_lload_n dX7_purses_52 rfl 1 rfl ?_
      refine x_aload_n dX7_purses_53 rfl 0 rfl ?_
      refine x_get (ci := 7) (k := 31) (v := .ref (a0 + 27)) dX7_purses_54 wF_X7_89 (Nat.le_of_ble_eq_true rfl) (Nat.le_of_ble_eq_true rfl) hW.1 (congrArg va_rf (w7r_27 hW)) ?_
      refine x_iload_n dX7_purses_57 rfl 2 rfl ?_
      obtain ⟨hv2, hw⟩ := hw
      refine x_ialdZ dX7_purses_58 (w7k_27 hW) (w7z_27 hW) hv2 ?_
      refine x_if_ne 91 dX7_purses_59 rfl (fun hc3 => ?_) (fun hc3 => ?_)
      · replace hw := hw.2 hc3
        exact x_sub [0, 2] rfl (xb_X7_purses_91 hW ih hw)
      · replace hw := hw.1 hc3
        refine x_aload_n dX7_purses_62 rfl 0 rfl ?_
        refine x_get (ci := 7) (k := 21) (v := .ref (a0 + 20)) dX7_purses_63 wF_X7_68 (Nat.le_of_ble_eq_true rfl) (Nat.le_of_ble_eq_true rfl) hW.1 (congrArg va_rf (w7r_20 hW)) ?_
        refine x_aload_n dX7_purses_66 rfl 0 rfl ?_
        refine x_get (ci := 7) (k := 34) (v := .ref (a0 + 30)) dX7_purses_67 wF_X7_98 (Nat.le_of_ble_eq_true rfl) (Nat.le_of_ble_eq_true rfl) hW.1 (congrArg va_rf (w7r_30 hW)) ?_
        refine x_iload_n dX7_purses_70 rfl 2 rfl ?_
        obtain ⟨hv4, hw⟩ := hw
        refine x_ialdZ dX7_purses_71 (w7k_30 hW) (w7z_30 hW) hv4 ?_
        obtain ⟨hv5, hw⟩ := hw
        refine x_ialdZ dX7_purses_72 (w7k_20 hW) (w7z_20 hW) hv5 ?_
        refine x_if_lt 91 dX7_purses_73 rfl (fun hc6 => ?_) (fun hc6 => ?_)
        · replace hw := hw.1 hc6
          exact x_sub [0, 2] rfl (xb_X7_purses_91 hW ih hw)
        · replace hw := hw.2 hc6
          refine x_aload_n dX7_purses_76 rfl 0 rfl ?_
          refine x_get (ci := 7) (k := 19) (v := .ref (a0 + 18)) dX7_purses_77 wF_X7_62 (Nat.le_of_ble_eq_true rfl) (Nat.le_of_ble_eq_true rfl) hW.1 (congrArg va_rf (w7r_18 hW)) ?_
          refine x_aload_n dX7_purses_80 rfl 0 rfl ?_
          refine x_get (ci := 7) (k := 34) (v := .ref (a0 + 30)) dX7_purses_81 wF_X7_98 (Nat.le_of_ble_eq_true rfl) (Nat.le_of_ble_eq_true rfl) hW.1 (congrArg va_rf (w7r_30 hW)) ?_
          refine x_iload_n dX7_purses_84 rfl 2 rfl ?_
          obtain ⟨hv7, hw⟩ := hw
          refine x_ialdZ dX7_purses_85 (w7k_30 hW) (w7z_30 hW) hv7 ?_
          obtain ⟨hv8, hw⟩ := hw
          refine x_ialdZ dX7_purses_86 (w7k_18 hW) (w7z_18 hW) hv8 ?_
          refine x_i2l dX7_purses_87 ?_
          refine x_goto 92 dX7_purses_88 rfl ?_
          exact x_sub [0, 2] rfl (xb_X7_purses_92 hW ih hw)
def wb_X7_purses_34 (Q : Int64 → Prop) (K4 : Int64 → Int32 → Prop) (σ : xS) (a0 : Nat) (l3 : Int32) (s0 : Int64) (s1 : Int64) : Prop := K4 (s0 + s1) (l3 + 1)
set_option maxRecDepth 100000 in
set_option maxHeartbeats 4000000 in
theorem xb_X7_purses_34 {Q : Int64 → Prop} {K4 : Int64 → Int32 → Prop} {σ : xS} {a0 : Nat}  {l3 : Int32} {s0 : Int64} {s1 : Int64} (hW : xw7 σ a0)  (hK4 : ∀ (l1 : Int64) (l3 : Int32), K4 l1 l3 → xX M_X7_purses 4 [(0, .ref a0), (1, .long l1), (3, .int l3)] [] σ (xqL (fun r σ2 => σ = σ2 ∧ Q r ))) (hw : wb_X7_purses_34 Q K4 σ a0 l3 s0 s1) : xX M_X7_purses 34 [(0, .ref a0), (3, .int l3)] [.long s1, .long s0] σ (xqL (fun r σ2 => σ = σ2 ∧ Q r )) := by
  unfold wb_X7_purses_34 at hw
  refine x_ladd dX7_purses_34 ?_
  refine x_lstore_n [(1, .long (s0 + s1)), (0, .ref a0), (3, .int l3)] dX7_purses_35 rfl (Nat.le_of_ble_eq_true rfl) rfl ?_
  refine x_iinc [(3, .int (l3 + 1)), (1, .long (s0 + s1)), (0, .ref a0)] dX7_purses_36 2 rfl (congrArg _ cI_1) (Nat.le_of_ble_eq_true rfl) rfl ?_
  refine x_goto 4 dX7_purses_39 rfl ?_
  exact x_sub [2, 1, 0] rfl (hK4 _ _ hw)
def wb_X7_purses_4 (Q : Int64 → Prop) (σ : xS) (a0 : Nat) : Nat → Int64 → Int32 → Prop
  | 0, _, _ => False
  | n + 1, l1, l3 => ((xh_I σ 448 a0) ≤ l3 → ∃ m44, wb_X7_purses_44 Q σ a0 m44 l1 0) ∧ (¬ (xh_I σ 448 a0) ≤ l3 → vp_in l3 40 ∧ (((xh_a σ (a0 + 2) l3.toNatClampNeg) = 1 → vp_in l3 40 ∧ (wb_X7_purses_34 Q (fun l1 l3 => wb_X7_purses_4 Q σ a0 n l1 l3) σ a0 l3 l1 ((xh_a σ (a0 + 3) l3.toNatClampNeg).toInt64))) ∧ (¬ (xh_a σ (a0 + 2) l3.toNatClampNeg) = 1 → wb_X7_purses_34 Q (fun l1 l3 => wb_X7_purses_4 Q σ a0 n l1 l3) σ a0 l3 l1 0)))
set_option maxRecDepth 100000 in
set_option maxHeartbeats 4000000 in
theorem xl_X7_purses_4 {Q : Int64 → Prop} {σ : xS} {a0 : Nat}  (hW : xw7 σ a0)  : ∀ (n : Nat) (l1 : Int64) (l3 : Int32), wb_X7_purses_4 Q σ a0 n l1 l3 → xX M_X7_purses 4 [(0, .ref a0), (1, .long l1), (3, .int l3)] [] σ (xqL (fun r σ2 => σ = σ2 ∧ Q r )) := by
  intro n
  induction n with
  | zero => intro l1 l3 hw; exact False.elim hw
  | succ n ih =>
    intro l1 l3 hw
    unfold wb_X7_purses_4 at hw
    refine x_iload_n dX7_purses_4 rfl 2 rfl ?_
    refine x_aload_n dX7_purses_5 rfl 0 rfl ?_
    refine x_get (ci := 7) (k := 0) (v := .int (xh_I σ 448 a0)) dX7_purses_6 wF_X7_128 (Nat.le_of_ble_eq_true rfl) (Nat.le_of_ble_eq_true rfl) hW.1 rfl ?_
    refine x_icmp_ge 42 dX7_purses_9 rfl (fun hc9 => ?_) (fun hc9 => ?_)
    · replace hw := hw.1 hc9
      refine x_iconst dX7_purses_42 cI_0 ?_
      refine x_istore_n [(3, .int 0), (0, .ref a0), (1, .long l1)] dX7_purses_43 rfl (Nat.le_of_ble_eq_true rfl) rfl ?_
      obtain ⟨m44, hw⟩ := hw
      exact x_sub [1, 2, 0] rfl (xl_X7_purses_44 hW m44 _ _ hw)
    · replace hw := hw.2 hc9
      refine x_lload_n dX7_purses_12 rfl 1 rfl ?_
      refine x_aload_n dX7_purses_13 rfl 0 rfl ?_
      refine x_get (ci := 7) (k := 2) (v := .ref (a0 + 2)) dX7_purses_14 wF_X7_13 (Nat.le_of_ble_eq_true rfl) (Nat.le_of_ble_eq_true rfl) hW.1 (congrArg va_rf (w7r_2 hW)) ?_
      refine x_iload_n dX7_purses_17 rfl 2 rfl ?_
      obtain ⟨hv10, hw⟩ := hw
      refine x_ialdZ dX7_purses_18 (w7k_2 hW) (w7z_2 hW) hv10 ?_
      refine x_iconst dX7_purses_19 cI_1 ?_
      refine x_icmp_ne 33 dX7_purses_20 rfl (fun hc11 => ?_) (fun hc11 => ?_)
      · replace hw := hw.2 hc11
        refine x_lconst dX7_purses_33 cL_0 ?_
        exact x_sub [0, 2] rfl (xb_X7_purses_34 hW ih hw)
      · replace hw := hw.1 hc11
        refine x_aload_n dX7_purses_23 rfl 0 rfl ?_
        refine x_get (ci := 7) (k := 3) (v := .ref (a0 + 3)) dX7_purses_24 wF_X7_16 (Nat.le_of_ble_eq_true rfl) (Nat.le_of_ble_eq_true rfl) hW.1 (congrArg va_rf (w7r_3 hW)) ?_
        refine x_iload_n dX7_purses_27 rfl 2 rfl ?_
        obtain ⟨hv12, hw⟩ := hw
        refine x_ialdZ dX7_purses_28 (w7k_3 hW) (w7z_3 hW) hv12 ?_
        refine x_i2l dX7_purses_29 ?_
        refine x_goto 34 dX7_purses_30 rfl ?_
        exact x_sub [0, 2] rfl (xb_X7_purses_34 hW ih hw)
def wp_X7_purses (σ : xS) (a0 : Nat) (Q : Int64 → Prop) : Prop := ∃ m4, wb_X7_purses_4 Q σ a0 m4 0 0
set_option maxRecDepth 100000 in
set_option maxHeartbeats 4000000 in
theorem ct_X7_purses {σ : xS} {a0 : Nat}  {Q : Int64 → Prop} (hW : xw7 σ a0) (hw : wp_X7_purses σ a0 Q) : xCt M_X7_purses [.ref a0] σ (xqL (fun r σ2 => σ = σ2 ∧ Q r )) := by
  refine xCt_ofL (lv := [(0, .ref a0)]) pn_X7 (Nat.le_of_ble_eq_true rfl) rfl ?_
  unfold wp_X7_purses at hw
  refine x_lconst dX7_purses_0 cL_0 ?_
  refine x_lstore_n [(1, .long 0), (0, .ref a0)] dX7_purses_1 rfl (Nat.le_of_ble_eq_true rfl) rfl ?_
  refine x_iconst dX7_purses_2 cI_0 ?_
  refine x_istore_n [(3, .int 0), (1, .long 0), (0, .ref a0)] dX7_purses_3 rfl (Nat.le_of_ble_eq_true rfl) rfl ?_
  obtain ⟨m4, hw⟩ := hw
  exact x_sub [2, 1, 0] rfl (xl_X7_purses_4 hW m4 _ _ hw)
-- PromiseWireModel.countWhere(I)I
def wb_X7_countWhere_28 (Q : Int32 → Prop) (K4 : Int32 → Int32 → Int32 → Prop) (σ : xS) (a0 : Nat) (l1 : Int32) (l3 : Int32) (s0 : Int32) (s1 : Int32) : Prop := K4 l1 (s0 + s1) (l3 + 1)
set_option maxRecDepth 100000 in
set_option maxHeartbeats 4000000 in
theorem xb_X7_countWhere_28 {Q : Int32 → Prop} {K4 : Int32 → Int32 → Int32 → Prop} {σ : xS} {a0 : Nat}  {l1 : Int32} {l3 : Int32} {s0 : Int32} {s1 : Int32} (hW : xw7 σ a0)  (hK4 : ∀ (l1 : Int32) (l2 : Int32) (l3 : Int32), K4 l1 l2 l3 → xX M_X7_countWhere 4 [(0, .ref a0), (1, .int l1), (2, .int l2), (3, .int l3)] [] σ (xqI (fun r σ2 => σ = σ2 ∧ Q r ))) (hw : wb_X7_countWhere_28 Q K4 σ a0 l1 l3 s0 s1) : xX M_X7_countWhere 28 [(0, .ref a0), (1, .int l1), (3, .int l3)] [.int s1, .int s0] σ (xqI (fun r σ2 => σ = σ2 ∧ Q r )) := by
  unfold wb_X7_countWhere_28 at hw
  refine x_iadd dX7_countWhere_28 ?_
  refine x_istore_n [(2, .int (s0 + s1)), (0, .ref a0), (1, .int l1), (3, .int l3)] dX7_countWhere_29 rfl (Nat.le_of_ble_eq_true rfl) rfl ?_
  refine x_iinc [(3, .int (l3 + 1)), (2, .int (s0 + s1)), (0, .ref a0), (1, .int l1)] dX7_countWhere_30 3 rfl (congrArg _ cI_1) (Nat.le_of_ble_eq_true rfl) rfl ?_
  refine x_goto 4 dX7_countWhere_33 rfl ?_
  exact x_sub [2, 3, 1, 0] rfl (hK4 _ _ _ hw)
def wb_X7_countWhere_4 (Q : Int32 → Prop) (σ : xS) (a0 : Nat) : Nat → Int32 → Int32 → Int32 → Prop
  | 0, _, _, _ => False
  | n + 1, l1, l2, l3 => ((xh_I σ 457 a0) ≤ l3 → Q l2) ∧ (¬ (xh_I σ 457 a0) ≤ l3 → vp_in l3 100 ∧ (((xh_a σ (a0 + 16) l3.toNatClampNeg) = l1 → wb_X7_countWhere_28 Q (fun l1 l2 l3 => wb_X7_countWhere_4 Q σ a0 n l1 l2 l3) σ a0 l1 l3 l2 1) ∧ (¬ (xh_a σ (a0 + 16) l3.toNatClampNeg) = l1 → wb_X7_countWhere_28 Q (fun l1 l2 l3 => wb_X7_countWhere_4 Q σ a0 n l1 l2 l3) σ a0 l1 l3 l2 0)))
set_option maxRecDepth 100000 in
set_option maxHeartbeats 4000000 in
theorem xl_X7_countWhere_4 {Q : Int32 → Prop} {σ : xS} {a0 : Nat}  (hW : xw7 σ a0)  : ∀ (n : Nat) (l1 : Int32) (l2 : Int32) (l3 : Int32), wb_X7_countWhere_4 Q σ a0 n l1 l2 l3 → xX M_X7_countWhere 4 [(0, .ref a0), (1, .int l1), (2, .int l2), (3, .int l3)] [] σ (xqI (fun r σ2 => σ = σ2 ∧ Q r )) := by
  intro n
  induction n with
  | zero => intro l1 l2 l3 hw; exact False.elim hw
  | succ n ih =>
    intro l1 l2 l3 hw
    unfold wb_X7_countWhere_4 at hw
    refine x_iload_n dX7_countWhere_4 rfl 3 rfl ?_
    refine x_aload_n dX7_countWhere_5 rfl 0 rfl ?_
    refine x_get (ci := 7) (k := 9) (v := .int (xh_I σ 457 a0)) dX7_countWhere_6 wF_X7_136 (Nat.le_of_ble_eq_true rfl) (Nat.le_of_ble_eq_true rfl) hW.1 rfl ?_
    refine x_icmp_ge 36 dX7_countWhere_9 rfl (fun hc1 => ?_) (fun hc1 => ?_)
    · replace hw := hw.1 hc1
      refine x_iload_n dX7_countWhere_36 rfl 2 rfl ?_
      exact x_iret dX7_countWhere_37 rfl ⟨l2, rfl, rfl, hw⟩
    · replace hw := hw.2 hc1
      refine x_iload_n dX7_countWhere_12 rfl 2 rfl ?_
      refine x_aload_n dX7_countWhere_13 rfl 0 rfl ?_
      refine x_get (ci := 7) (k := 17) (v := .ref (a0 + 16)) dX7_countWhere_14 wF_X7_56 (Nat.le_of_ble_eq_true rfl) (Nat.le_of_ble_eq_true rfl) hW.1 (congrArg va_rf (w7r_16 hW)) ?_
      refine x_iload_n dX7_countWhere_17 rfl 3 rfl ?_
      obtain ⟨hv2, hw⟩ := hw
      refine x_ialdZ dX7_countWhere_18 (w7k_16 hW) (w7z_16 hW) hv2 ?_
      refine x_iload_n dX7_countWhere_19 rfl 1 rfl ?_
      refine x_icmp_ne 27 dX7_countWhere_20 rfl (fun hc3 => ?_) (fun hc3 => ?_)
      · replace hw := hw.2 hc3
        refine x_iconst dX7_countWhere_27 cI_0 ?_
        exact x_sub [0, 1, 3] rfl (xb_X7_countWhere_28 hW ih hw)
      · replace hw := hw.1 hc3
        refine x_iconst dX7_countWhere_23 cI_1 ?_
        refine x_goto 28 dX7_countWhere_24 rfl ?_
        exact x_sub [0, 1, 3] rfl (xb_X7_countWhere_28 hW ih hw)
def wp_X7_countWhere (σ : xS) (a0 : Nat) (l1 : Int32) (Q : Int32 → Prop) : Prop := ∃ m4, wb_X7_countWhere_4 Q σ a0 m4 l1 0 0
set_option maxRecDepth 100000 in
set_option maxHeartbeats 4000000 in
theorem ct_X7_countWhere {σ : xS} {a0 : Nat}  {l1 : Int32} {Q : Int32 → Prop} (hW : xw7 σ a0) (hw : wp_X7_countWhere σ a0 l1 Q) : xCt M_X7_countWhere [.ref a0, .int l1] σ (xqI (fun r σ2 => σ = σ2 ∧ Q r )) := by
  refine xCt_ofL (lv := [(0, .ref a0), (1, .int l1)]) pn_X7 (Nat.le_of_ble_eq_true rfl) rfl ?_
  unfold wp_X7_countWhere at hw
  refine x_iconst dX7_countWhere_0 cI_0 ?_
  refine x_istore_n [(2, .int 0), (0, .ref a0), (1, .int l1)] dX7_countWhere_1 rfl (Nat.le_of_ble_eq_true rfl) rfl ?_
  refine x_iconst dX7_countWhere_2 cI_0 ?_
  refine x_istore_n [(3, .int 0), (2, .int 0), (0, .ref a0), (1, .int l1)] dX7_countWhere_3 rfl (Nat.le_of_ble_eq_true rfl) rfl ?_
  obtain ⟨m4, hw⟩ := hw
  exact x_sub [2, 3, 1, 0] rfl (xl_X7_countWhere_4 hW m4 _ _ _ hw)
-- PromiseWireModel.count(I)I
def wb_X7_count_139 (Q : Int32 → Prop) (K109 : Int32 → Int32 → Prop) (σ : xS) (a0 : Nat) (l3 : Int32) (s0 : Int32) (s1 : Int32) : Prop := K109 (s0 + s1) (l3 + 1)
set_option maxRecDepth 100000 in
set_option maxHeartbeats 4000000 in
theorem xb_X7_count_139 {Q : Int32 → Prop} {K109 : Int32 → Int32 → Prop} {σ : xS} {a0 : Nat}  {l3 : Int32} {s0 : Int32} {s1 : Int32} (hW : xw7 σ a0)  (hK109 : ∀ (l2 : Int32) (l3 : Int32), K109 l2 l3 → xX M_X7_count 109 [(0, .ref a0), (2, .int l2), (3, .int l3)] [] σ (xqI (fun r σ2 => σ = σ2 ∧ Q r ))) (hw : wb_X7_count_139 Q K109 σ a0 l3 s0 s1) : xX M_X7_count 139 [(0, .ref a0), (3, .int l3)] [.int s1, .int s0] σ (xqI (fun r σ2 => σ = σ2 ∧ Q r )) := by
  unfold wb_X7_count_139 at hw
  refine x_iadd dX7_count_139 ?_
  refine x_istore_n [(2, .int (s0 + s1)), (0, .ref a0), (3, .int l3)] dX7_count_140 rfl (Nat.le_of_ble_eq_true rfl) rfl ?_
  refine x_iinc [(3, .int (l3 + 1)), (2, .int (s0 + s1)), (0, .ref a0)] dX7_count_141 2 rfl (congrArg _ cI_1) (Nat.le_of_ble_eq_true rfl) rfl ?_
  refine x_goto 109 dX7_count_144 rfl ?_
  exact x_sub [2, 1, 0] rfl (hK109 _ _ hw)
def wb_X7_count_138 (Q : Int32 → Prop) (K109 : Int32 → Int32 → Prop) (σ : xS) (a0 : Nat) (l3 : Int32) (s0 : Int32) : Prop := wb_X7_count_139 Q K109 σ a0 l3 s0 0
set_option maxRecDepth 100000 in
set_option maxHeartbeats 4000000 in
theorem xb_X7_count_138 {Q : Int32 → Prop} {K109 : Int32 → Int32 → Prop} {σ : xS} {a0 : Nat}  {l3 : Int32} {s0 : Int32} (hW : xw7 σ a0)  (hK109 : ∀ (l2 : Int32) (l3 : Int32), K109 l2 l3 → xX M_X7_count 109 [(0, .ref a0), (2, .int l2), (3, .int l3)] [] σ (xqI (fun r σ2 => σ = σ2 ∧ Q r ))) (hw : wb_X7_count_138 Q K109 σ a0 l3 s0) : xX M_X7_count 138 [(0, .ref a0), (3, .int l3)] [.int s0] σ (xqI (fun r σ2 => σ = σ2 ∧ Q r )) := by
  unfold wb_X7_count_138 at hw
  refine x_iconst dX7_count_138 cI_0 ?_
  exact x_sub [0, 1] rfl (xb_X7_count_139 hW hK109 hw)
def wb_X7_count_109 (Q : Int32 → Prop) (σ : xS) (a0 : Nat) : Nat → Int32 → Int32 → Prop
  | 0, _, _ => False
  | n + 1, l2, l3 => ((16 : Int32) ≤ l3 → Q l2) ∧ (¬ (16 : Int32) ≤ l3 → vp_in l3 16 ∧ (((xh_a σ (a0 + 36) l3.toNatClampNeg) = 0 → wb_X7_count_138 Q (fun l2 l3 => wb_X7_count_109 Q σ a0 n l2 l3) σ a0 l3 l2) ∧ (¬ (xh_a σ (a0 + 36) l3.toNatClampNeg) = 0 → ((l3 - l3 / 4 * 4) ≤ (l3 / 4) → wb_X7_count_138 Q (fun l2 l3 => wb_X7_count_109 Q σ a0 n l2 l3) σ a0 l3 l2) ∧ (¬ (l3 - l3 / 4 * 4) ≤ (l3 / 4) → wb_X7_count_139 Q (fun l2 l3 => wb_X7_count_109 Q σ a0 n l2 l3) σ a0 l3 l2 1))))
set_option maxRecDepth 100000 in
set_option maxHeartbeats 4000000 in
theorem xl_X7_count_109 {Q : Int32 → Prop} {σ : xS} {a0 : Nat}  (hW : xw7 σ a0)  : ∀ (n : Nat) (l2 : Int32) (l3 : Int32), wb_X7_count_109 Q σ a0 n l2 l3 → xX M_X7_count 109 [(0, .ref a0), (2, .int l2), (3, .int l3)] [] σ (xqI (fun r σ2 => σ = σ2 ∧ Q r )) := by
  intro n
  induction n with
  | zero => intro l2 l3 hw; exact False.elim hw
  | succ n ih =>
    intro l2 l3 hw
    unfold wb_X7_count_109 at hw
    refine x_iload_n dX7_count_109 rfl 2 rfl ?_
    refine x_bipush dX7_count_110 cB_16 ?_
    refine x_icmp_ge 147 dX7_count_112 rfl (fun hc1 => ?_) (fun hc1 => ?_)
    · replace hw := hw.1 hc1
      refine x_iload_n dX7_count_147 rfl 1 rfl ?_
      exact x_iret dX7_count_148 rfl ⟨l2, rfl, rfl, hw⟩
    · replace hw := hw.2 hc1
      refine x_iload_n dX7_count_115 rfl 1 rfl ?_
      refine x_aload_n dX7_count_116 rfl 0 rfl ?_
      refine x_get (ci := 7) (k := 40) (v := .ref (a0 + 36)) dX7_count_117 wF_X7_116 (Nat.le_of_ble_eq_true rfl) (Nat.le_of_ble_eq_true rfl) hW.1 (congrArg va_rf (w7r_36 hW)) ?_
      refine x_iload_n dX7_count_120 rfl 2 rfl ?_
      obtain ⟨hv2, hw⟩ := hw
      refine x_zaldZ dX7_count_121 (w7k_36 hW) (w7z_36 hW) hv2 ?_
      refine x_if_eq 138 dX7_count_122 rfl (fun hc3 => ?_) (fun hc3 => ?_)
      · replace hw := hw.1 hc3
        exact x_sub [0, 2] rfl (xb_X7_count_138 hW ih hw)
      · replace hw := hw.2 hc3
        refine x_iload_n dX7_count_125 rfl 2 rfl ?_
        refine x_iconst dX7_count_126 cI_4 ?_
        refine x_idiv dX7_count_127 (by decide) ?_
        refine x_iload_n dX7_count_128 rfl 2 rfl ?_
        refine x_iconst dX7_count_129 cI_4 ?_
        refine x_irem dX7_count_130 (by decide) ?_
        refine x_icmp_ge 138 dX7_count_131 rfl (fun hc4 => ?_) (fun hc4 => ?_)
        · replace hw := hw.1 hc4
          exact x_sub [0, 2] rfl (xb_X7_count_138 hW ih hw)
        · replace hw := hw.2 hc4
          refine x_iconst dX7_count_134 cI_1 ?_
          refine x_goto 139 dX7_count_135 rfl ?_
          exact x_sub [0, 2] rfl (xb_X7_count_139 hW ih hw)
def wb_X7_count_87 (Q : Int32 → Prop) (K64 : Int32 → Int32 → Prop) (σ : xS) (a0 : Nat) (l3 : Int32) (s0 : Int32) (s1 : Int32) : Prop := K64 (s0 + s1) (l3 + 1)
set_option maxRecDepth 100000 in
set_option maxHeartbeats 4000000 in
theorem xb_X7_count_87 {Q : Int32 → Prop} {K64 : Int32 → Int32 → Prop} {σ : xS} {a0 : Nat}  {l3 : Int32} {s0 : Int32} {s1 : Int32} (hW : xw7 σ a0)  (hK64 : ∀ (l2 : Int32) (l3 : Int32), K64 l2 l3 → xX M_X7_count 64 [(0, .ref a0), (2, .int l2), (3, .int l3)] [] σ (xqI (fun r σ2 => σ = σ2 ∧ Q r ))) (hw : wb_X7_count_87 Q K64 σ a0 l3 s0 s1) : xX M_X7_count 87 [(0, .ref a0), (3, .int l3)] [.int s1, .int s0] σ (xqI (fun r σ2 => σ = σ2 ∧ Q r )) := by
  unfold wb_X7_count_87 at hw
  refine x_iadd dX7_count_87 ?_
  refine x_istore_n [(2, .int (s0 + s1)), (0, .ref a0), (3, .int l3)] dX7_count_88 rfl (Nat.le_of_ble_eq_true rfl) rfl ?_
  refine x_iinc [(3, .int (l3 + 1)), (2, .int (s0 + s1)), (0, .ref a0)] dX7_count_89 2 rfl (congrArg _ cI_1) (Nat.le_of_ble_eq_true rfl) rfl ?_
  refine x_goto 64 dX7_count_92 rfl ?_
  exact x_sub [2, 1, 0] rfl (hK64 _ _ hw)
def wb_X7_count_64 (Q : Int32 → Prop) (σ : xS) (a0 : Nat) : Nat → Int32 → Int32 → Prop
  | 0, _, _ => False
  | n + 1, l2, l3 => ((xh_I σ 457 a0) ≤ l3 → Q l2) ∧ (¬ (xh_I σ 457 a0) ≤ l3 → vp_in l3 100 ∧ (((xh_a σ (a0 + 11) l3.toNatClampNeg) = 0 → wb_X7_count_87 Q (fun l2 l3 => wb_X7_count_64 Q σ a0 n l2 l3) σ a0 l3 l2 1) ∧ (¬ (xh_a σ (a0 + 11) l3.toNatClampNeg) = 0 → wb_X7_count_87 Q (fun l2 l3 => wb_X7_count_64 Q σ a0 n l2 l3) σ a0 l3 l2 0)))
set_option maxRecDepth 100000 in
set_option maxHeartbeats 4000000 in
theorem xl_X7_count_64 {Q : Int32 → Prop} {σ : xS} {a0 : Nat}  (hW : xw7 σ a0)  : ∀ (n : Nat) (l2 : Int32) (l3 : Int32), wb_X7_count_64 Q σ a0 n l2 l3 → xX M_X7_count 64 [(0, .ref a0), (2, .int l2), (3, .int l3)] [] σ (xqI (fun r σ2 => σ = σ2 ∧ Q r )) := by
  intro n
  induction n with
  | zero => intro l2 l3 hw; exact False.elim hw
  | succ n ih =>
    intro l2 l3 hw
    unfold wb_X7_count_64 at hw
    refine x_iload_n dX7_count_64 rfl 2 rfl ?_
    refine x_aload_n dX7_count_65 rfl 0 rfl ?_
    refine x_get (ci := 7) (k := 9) (v := .int (xh_I σ 457 a0)) dX7_count_66 wF_X7_136 (Nat.le_of_ble_eq_true rfl) (Nat.le_of_ble_eq_true rfl) hW.1 rfl ?_
    refine x_icmp_ge 95 dX7_count_69 rfl (fun hc5 => ?_) (fun hc5 => ?_)
    · replace hw := hw.1 hc5
      refine x_iload_n dX7_count_95 rfl 1 rfl ?_
      exact x_iret dX7_count_96 rfl ⟨l2, rfl, rfl, hw⟩
    · replace hw := hw.2 hc5
      refine x_iload_n dX7_count_72 rfl 1 rfl ?_
      refine x_aload_n dX7_count_73 rfl 0 rfl ?_
      refine x_get (ci := 7) (k := 12) (v := .ref (a0 + 11)) dX7_count_74 wF_X7_41 (Nat.le_of_ble_eq_true rfl) (Nat.le_of_ble_eq_true rfl) hW.1 (congrArg va_rf (w7r_11 hW)) ?_
      refine x_iload_n dX7_count_77 rfl 2 rfl ?_
      obtain ⟨hv6, hw⟩ := hw
      refine x_ialdZ dX7_count_78 (w7k_11 hW) (w7z_11 hW) hv6 ?_
      refine x_if_ne 86 dX7_count_79 rfl (fun hc7 => ?_) (fun hc7 => ?_)
      · replace hw := hw.2 hc7
        refine x_iconst dX7_count_86 cI_0 ?_
        exact x_sub [0, 2] rfl (xb_X7_count_87 hW ih hw)
      · replace hw := hw.1 hc7
        refine x_iconst dX7_count_82 cI_1 ?_
        refine x_goto 87 dX7_count_83 rfl ?_
        exact x_sub [0, 2] rfl (xb_X7_count_87 hW ih hw)
def wp_X7_count (σ : xS) (a0 : Nat) (l1 : Int32) (Q : Int32 → Prop) : Prop := (l1 = 0 → Q (xh_I σ 448 a0)) ∧ (¬ l1 = 0 → (l1 = 1 → Q (xh_I σ 457 a0)) ∧ (¬ l1 = 1 → (l1 = 2 → ∃ m64, wb_X7_count_64 Q σ a0 m64 0 0) ∧ (¬ l1 = 2 → (l1 = 3 → Q (xh_I σ 478 a0)) ∧ (¬ l1 = 3 → (l1 = 4 → Q (xh_I σ 473 a0)) ∧ (¬ l1 = 4 → (l1 = 5 → ∃ m109, wb_X7_count_109 Q σ a0 m109 0 0) ∧ (¬ l1 = 5 → (l1 = 6 → wp_X7_countWhere σ a0 1 (fun x15 => Q x15)) ∧ (¬ l1 = 6 → (l1 = 7 → wp_X7_countWhere σ a0 2 (fun x18 => Q x18)) ∧ (¬ l1 = 7 → (l1 = 8 → Q (xh_I σ 493 a0)) ∧ (¬ l1 = 8 → Q (-1))))))))))
set_option maxRecDepth 100000 in
set_option maxHeartbeats 4000000 in
theorem ct_X7_count {σ : xS} {a0 : Nat}  {l1 : Int32} {Q : Int32 → Prop} (hW : xw7 σ a0) (hw : wp_X7_count σ a0 l1 Q) : xCt M_X7_count [.ref a0, .int l1] σ (xqI (fun r σ2 => σ = σ2 ∧ Q r )) := by
  refine xCt_ofL (lv := [(0, .ref a0), (1, .int l1)]) pn_X7 (Nat.le_of_ble_eq_true rfl) rfl ?_
  unfold wp_X7_count at hw
  refine x_iconst dX7_count_0 cI_0 ?_
  refine x_istore_n [(2, .int 0), (0, .ref a0), (1, .int l1)] dX7_count_1 rfl (Nat.le_of_ble_eq_true rfl) rfl ?_
  refine x_iload_n dX7_count_2 rfl 2 rfl ?_
  by_cases hc8 : l1 = 0
  · replace hw := hw.1 hc8
    refine x_tableIn (off := 49) 52 dX7_count_3 (by rw [hc8]; decide) (by rw [hc8]; decide) (by rw [hc8]; rfl) rfl ?_
    refine x_aload_n dX7_count_52 rfl 1 rfl ?_
    refine x_get (ci := 7) (k := 0) (v := .int (xh_I σ 448 a0)) dX7_count_53 wF_X7_128 (Nat.le_of_ble_eq_true rfl) (Nat.le_of_ble_eq_true rfl) hW.1 rfl ?_
    exact x_iret dX7_count_56 rfl ⟨(xh_I σ 448 a0), rfl, rfl, hw⟩
  · replace hw := hw.2 hc8
    by_cases hc9 : l1 = 1
    · replace hw := hw.1 hc9
      refine x_tableIn (off := 54) 57 dX7_count_3 (by rw [hc9]; decide) (by rw [hc9]; decide) (by rw [hc9]; rfl) rfl ?_
      refine x_aload_n dX7_count_57 rfl 1 rfl ?_
      refine x_get (ci := 7) (k := 9) (v := .int (xh_I σ 457 a0)) dX7_count_58 wF_X7_136 (Nat.le_of_ble_eq_true rfl) (Nat.le_of_ble_eq_true rfl) hW.1 rfl ?_
      exact x_iret dX7_count_61 rfl ⟨(xh_I σ 457 a0), rfl, rfl, hw⟩
    · replace hw := hw.2 hc9
      by_cases hc10 : l1 = 2
      · replace hw := hw.1 hc10
        refine x_tableIn (off := 59) 62 dX7_count_3 (by rw [hc10]; decide) (by rw [hc10]; decide) (by rw [hc10]; rfl) rfl ?_
        refine x_iconst dX7_count_62 cI_0 ?_
        refine x_istore_n [(3, .int 0), (2, .int 0), (0, .ref a0), (1, .int l1)] dX7_count_63 rfl (Nat.le_of_ble_eq_true rfl) rfl ?_
        obtain ⟨m64, hw⟩ := hw
        exact x_sub [2, 1, 0] rfl (xl_X7_count_64 hW m64 _ _ hw)
      · replace hw := hw.2 hc10
        by_cases hc11 : l1 = 3
        · replace hw := hw.1 hc11
          refine x_tableIn (off := 94) 97 dX7_count_3 (by rw [hc11]; decide) (by rw [hc11]; decide) (by rw [hc11]; rfl) rfl ?_
          refine x_aload_n dX7_count_97 rfl 1 rfl ?_
          refine x_get (ci := 7) (k := 30) (v := .int (xh_I σ 478 a0)) dX7_count_98 wF_X7_147 (Nat.le_of_ble_eq_true rfl) (Nat.le_of_ble_eq_true rfl) hW.1 rfl ?_
          exact x_iret dX7_count_101 rfl ⟨(xh_I σ 478 a0), rfl, rfl, hw⟩
        · replace hw := hw.2 hc11
          by_cases hc12 : l1 = 4
          · replace hw := hw.1 hc12
            refine x_tableIn (off := 99) 102 dX7_count_3 (by rw [hc12]; decide) (by rw [hc12]; decide) (by rw [hc12]; rfl) rfl ?_
            refine x_aload_n dX7_count_102 rfl 1 rfl ?_
            refine x_get (ci := 7) (k := 25) (v := .int (xh_I σ 473 a0)) dX7_count_103 wF_X7_158 (Nat.le_of_ble_eq_true rfl) (Nat.le_of_ble_eq_true rfl) hW.1 rfl ?_
            exact x_iret dX7_count_106 rfl ⟨(xh_I σ 473 a0), rfl, rfl, hw⟩
          · replace hw := hw.2 hc12
            by_cases hc13 : l1 = 5
            · replace hw := hw.1 hc13
              refine x_tableIn (off := 104) 107 dX7_count_3 (by rw [hc13]; decide) (by rw [hc13]; decide) (by rw [hc13]; rfl) rfl ?_
              refine x_iconst dX7_count_107 cI_0 ?_
              refine x_istore_n [(3, .int 0), (2, .int 0), (0, .ref a0), (1, .int l1)] dX7_count_108 rfl (Nat.le_of_ble_eq_true rfl) rfl ?_
              obtain ⟨m109, hw⟩ := hw
              exact x_sub [2, 1, 0] rfl (xl_X7_count_109 hW m109 _ _ hw)
            · replace hw := hw.2 hc13
              by_cases hc14 : l1 = 6
              · replace hw := hw.1 hc14
                refine x_tableIn (off := 146) 149 dX7_count_3 (by rw [hc14]; decide) (by rw [hc14]; decide) (by rw [hc14]; rfl) rfl ?_
                refine x_aload_n dX7_count_149 rfl 1 rfl ?_
                refine x_iconst dX7_count_150 cI_1 ?_
                refine x_callV (M2 := M_X7_countWhere) (As := [.int 1]) (st := []) (ci := 7) (Nat.le_of_ble_eq_true rfl) hW.1 rfl wM_X7_353 wI_X7_countWhere wS_X7_countWhere dX7_count_151 rfl ok_X7_countWhere ⟨(Nat.le_of_ble_eq_true rfl), (Nat.le_of_ble_eq_true rfl)⟩ (Nat.le_of_ble_eq_true rfl) (ct_X7_countWhere hW hw) (xqI.k (fun x15 τ16 hw2 => ?_))
                obtain ⟨he, hw⟩ := hw2
                subst he
                exact x_iret dX7_count_154 rfl ⟨x15, rfl, rfl, hw⟩
              · replace hw := hw.2 hc14
                by_cases hc17 : l1 = 7
                · replace hw := hw.1 hc17
                  refine x_tableIn (off := 152) 155 dX7_count_3 (by rw [hc17]; decide) (by rw [hc17]; decide) (by rw [hc17]; rfl) rfl ?_
                  refine x_aload_n dX7_count_155 rfl 1 rfl ?_
                  refine x_iconst dX7_count_156 cI_2 ?_
                  refine x_callV (M2 := M_X7_countWhere) (As := [.int 2]) (st := []) (ci := 7) (Nat.le_of_ble_eq_true rfl) hW.1 rfl wM_X7_353 wI_X7_countWhere wS_X7_countWhere dX7_count_157 rfl ok_X7_countWhere ⟨(Nat.le_of_ble_eq_true rfl), (Nat.le_of_ble_eq_true rfl)⟩ (Nat.le_of_ble_eq_true rfl) (ct_X7_countWhere hW hw) (xqI.k (fun x18 τ19 hw2 => ?_))
                  obtain ⟨he, hw⟩ := hw2
                  subst he
                  exact x_iret dX7_count_160 rfl ⟨x18, rfl, rfl, hw⟩
                · replace hw := hw.2 hc17
                  by_cases hc20 : l1 = 8
                  · replace hw := hw.1 hc20
                    refine x_tableIn (off := 158) 161 dX7_count_3 (by rw [hc20]; decide) (by rw [hc20]; decide) (by rw [hc20]; rfl) rfl ?_
                    refine x_aload_n dX7_count_161 rfl 1 rfl ?_
                    refine x_get (ci := 7) (k := 45) (v := .int (xh_I σ 493 a0)) dX7_count_162 wF_X7_262 (Nat.le_of_ble_eq_true rfl) (Nat.le_of_ble_eq_true rfl) hW.1 rfl ?_
                    exact x_iret dX7_count_165 rfl ⟨(xh_I σ 493 a0), rfl, rfl, hw⟩
                  · replace hw := hw.2 hc20
                    refine x_tableOut 166 dX7_count_3 (xsw_0_8 hc8 hc9 hc10 hc11 hc12 hc13 hc14 hc17 hc20) rfl ?_
                    refine x_iconst dX7_count_166 cI_m1 ?_
                    exact x_iret dX7_count_167 rfl ⟨(-1), rfl, rfl, hw⟩
-- PromiseWireModel.trace()J
def wp_X7_trace (σ : xS) (a0 : Nat) (Q : Int64 → Prop) : Prop := Q (xh_L σ 494 a0)
set_option maxRecDepth 100000 in
set_option maxHeartbeats 4000000 in
theorem ct_X7_trace {σ : xS} {a0 : Nat}  {Q : Int64 → Prop} (hW : xw7 σ a0) (hw : wp_X7_trace σ a0 Q) : xCt M_X7_trace [.ref a0] σ (xqL (fun r σ2 => σ = σ2 ∧ Q r )) := by
  refine xCt_ofL (lv := [(0, .ref a0)]) pn_X7 (Nat.le_of_ble_eq_true rfl) rfl ?_
  unfold wp_X7_trace at hw
  refine x_aload_n dX7_trace_0 rfl 0 rfl ?_
  refine x_get (ci := 7) (k := 46) (v := .long (xh_L σ 494 a0)) dX7_trace_1 wF_X7_215 (Nat.le_of_ble_eq_true rfl) (Nat.le_of_ble_eq_true rfl) hW.1 rfl ?_
  exact x_lret dX7_trace_4 rfl ⟨(xh_L σ 494 a0), rfl, rfl, hw⟩
