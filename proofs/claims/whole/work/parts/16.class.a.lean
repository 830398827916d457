-- PromiseWire.<init>()V
def wb_X6_init_53 (Q : xS → Prop) (a0 : Nat) : Nat → xS → Int32 → Prop
  | 0, _, _ => False
  | n + 1, σ, l1 => ∃ r1, xh_R σ 387 a0 = some r1 ∧ (xh_k σ r1 = 14 ∧ (((Int32.ofNat (xh_z σ r1)) ≤ l1 → Q σ) ∧ (¬ (Int32.ofNat (xh_z σ r1)) ≤ l1 → xh_n σ < xh_m σ ∧ ∀ σ7, σ7 = xs_new σ 5 → (wp_X5_init σ7 (xh_n σ) (l1 / 4) (l1 - l1 / 4 * 4) (fun σ8 => xh_k σ8 r1 = 14 ∧ vp_in l1 (xh_z σ8 r1) ∧ xh_k σ8 (xh_n σ) = 6 ∧ ∀ σ12, σ12 = xs_q σ8 r1 l1.toNatClampNeg (some (xh_n σ)) → (xh_k σ12 a0 = 7 ∧ wb_X6_init_53 Q a0 n σ12 (l1 + 1)))))))
set_option maxRecDepth 100000 in
set_option maxHeartbeats 4000000 in
theorem xl_X6_init_53 {Q : xS → Prop} {a0 : Nat}  : ∀ (n : Nat) (σ : xS) (l1 : Int32), xh_k σ a0 = 7 → wb_X6_init_53 Q a0 n σ l1 → xX M_X6_init 53 [(0, .ref a0), (1, .int l1)] [] σ (xqV (fun σ2 => Q σ2)) := by
  intro n
  induction n with
  | zero => intro σ l1 hk0 hw; exact False.elim hw
  | succ n ih =>
    intro σ l1 hk0 hw
    unfold wb_X6_init_53 at hw
    refine x_iload_n dX6_init_53 rfl 1 rfl ?_
    refine x_aload_n dX6_init_54 rfl 0 rfl ?_
    obtain ⟨r1, hr2, hw⟩ := hw
    refine x_get (ci := 6) (k := 3) (v := .ref r1) dX6_init_55 wF_X6_29 (Nat.le_of_ble_eq_true rfl) (Nat.le_of_ble_eq_true rfl) hk0 (congrArg va_rf hr2) ?_
    obtain ⟨hk3, hw⟩ := hw
    refine x_alenZ (t := 5) (v := Int32.ofNat (xh_z σ r1)) dX6_init_58 hk3 (Nat.le_of_ble_eq_true rfl) rfl rfl ?_
    refine x_icmp_ge 87 dX6_init_59 rfl (fun hc4 => ?_) (fun hc4 => ?_)
    · replace hw := hw.1 hc4
      exact x_vret dX6_init_87 rfl ⟨rfl, hw⟩
    · replace hw := hw.2 hc4
      refine x_aload_n dX6_init_62 rfl 0 rfl ?_
      refine x_get (ci := 6) (k := 3) (v := .ref r1) dX6_init_63 wF_X6_29 (Nat.le_of_ble_eq_true rfl) (Nat.le_of_ble_eq_true rfl) hk0 (congrArg va_rf hr2) ?_
      refine x_iload_n dX6_init_66 rfl 1 rfl ?_
      refine x_fresh (fun hf5 => ?_)
      obtain ⟨hm6, hw⟩ := hw
      refine x_newN (ci := 5) dX6_init_67 (Nat.le_of_ble_eq_true rfl) wK_X6_27 wT_X5 wN_X5 hm6 (fun σ7 hσ7 => ?_)
      replace hw := hw σ7 hσ7
      refine x_dup dX6_init_70 rfl ?_
      refine x_iload_n dX6_init_71 rfl 1 rfl ?_
      refine x_iconst dX6_init_72 cI_4 ?_
      refine x_idiv dX6_init_73 (by decide) ?_
      refine x_iload_n dX6_init_74 rfl 1 rfl ?_
      refine x_iconst dX6_init_75 cI_4 ?_
      refine x_irem dX6_init_76 (by decide) ?_
      refine x_callI (M2 := M_X5_init) (As := [.int (l1 / 4), .int (l1 - l1 / 4 * 4)]) (st := [.ref (xh_n σ), .int l1, .ref r1]) rfl rfl wM_X6_40 wI_X5_init dX6_init_77 rfl ok_X5_init ⟨(Nat.le_of_ble_eq_true rfl), (Nat.le_of_ble_eq_true rfl)⟩ (Nat.le_of_ble_eq_true rfl) (ct_X5_init (xk_self hσ7) hw) (xqV.k (fun σ8 hw2 => ?_))
      have hw := hw2
      obtain ⟨hk9, hw⟩ := hw
      obtain ⟨hv10, hw⟩ := hw
      obtain ⟨hk11, hw⟩ := hw
      refine x_aastN (t := 3) dX6_init_80 hk9 (Nat.le_of_ble_eq_true rfl) hk11 rfl hv10 (fun σ12 hσ12 => ?_)
      replace hw := hw σ12 hσ12
      refine x_iinc [(1, .int (l1 + 1)), (0, .ref a0)] dX6_init_81 1 rfl (congrArg _ cI_1) (Nat.le_of_ble_eq_true rfl) rfl ?_
      refine x_goto 53 dX6_init_84 rfl ?_
      obtain ⟨hk13, hw⟩ := hw
      exact x_sub [1, 0] rfl (ih _ _ hk13 hw)
def wp_X6_init (σ : xS) (a0 : Nat) (Q : xS → Prop) : Prop := xh_n σ < xh_m σ ∧ ∀ σ16, σ16 = xs_arr σ 11 40 → (∀ σ17, σ17 = xs_R σ16 384 a0 (some (xh_n σ)) → (xh_n σ17 < xh_m σ17 ∧ ∀ σ20, σ20 = xs_arr σ17 12 100 → (∀ σ21, σ21 = xs_R σ20 385 a0 (some (xh_n σ17)) → (xh_n σ21 < xh_m σ21 ∧ ∀ σ24, σ24 = xs_arr σ21 13 40 → (∀ σ25, σ25 = xs_R σ24 386 a0 (some (xh_n σ21)) → (xh_n σ25 < xh_m σ25 ∧ ∀ σ28, σ28 = xs_arr σ25 14 16 → (∀ σ29, σ29 = xs_R σ28 387 a0 (some (xh_n σ25)) → (xh_n σ29 < xh_m σ29 ∧ ∀ σ32, σ32 = xs_new σ29 0 → (wp_X0_init σ32 (xh_n σ29) (∀ σ34, σ34 = xs_R σ32 388 a0 (some (xh_n σ29)) → (∃ m53, wb_X6_init_53 Q a0 m53 σ34 0)))))))))))
set_option maxRecDepth 100000 in
set_option maxHeartbeats 4000000 in
theorem ct_X6_init {σ : xS} {a0 : Nat}  {Q : xS → Prop} (hk0 : xh_k σ a0 = 7) (hw : wp_X6_init σ a0 Q) : xCt M_X6_init [.ref a0] σ (xqV (fun σ2 => Q σ2)) := by
  refine xCt_ofL (lv := [(0, .ref a0)]) pn_X6 (Nat.le_of_ble_eq_true rfl) rfl ?_
  unfold wp_X6_init at hw
  refine x_aload_n dX6_init_0 rfl 0 rfl ?_
  refine x_objInit dX6_init_1 wO_X6_1 wI_obj wC_obj (Nat.le_of_ble_eq_true rfl) (Nat.le_of_ble_eq_true rfl) (Nat.le_of_ble_eq_true rfl) ?_
  refine x_aload_n dX6_init_4 rfl 0 rfl ?_
  refine x_bipush dX6_init_5 cB_40 ?_
  refine x_fresh (fun hf14 => ?_)
  obtain ⟨hm15, hw⟩ := hw
  refine x_newQN (t0 := 0) dX6_init_7 (Nat.le_of_ble_eq_true rfl) wK_X6_9 hm15 (by decide) cN_40 (Nat.le_of_ble_eq_true rfl) (fun σ16 hσ16 => ?_)
  replace hw := hw σ16 hσ16
  refine x_putRN (r := (some (xh_n σ))) (ci := 6) (k := 0) (f := 384) dX6_init_10 wF_X6_11 (Nat.le_of_ble_eq_true rfl) (Nat.le_of_ble_eq_true rfl) (xk_arr hf14 hσ16 hk0) (Or.inr ⟨rfl, rfl, rfl⟩) rfl rfl (fun σ17 hσ17 => ?_)
  replace hw := hw σ17 hσ17
  refine x_aload_n dX6_init_13 rfl 0 rfl ?_
  refine x_bipush dX6_init_14 cB_100 ?_
  refine x_fresh (fun hf18 => ?_)
  obtain ⟨hm19, hw⟩ := hw
  refine x_newQN (t0 := 1) dX6_init_16 (Nat.le_of_ble_eq_true rfl) wK_X6_15 hm19 (by decide) cN_100 (Nat.le_of_ble_eq_true rfl) (fun σ20 hσ20 => ?_)
  replace hw := hw σ20 hσ20
  refine x_putRN (r := (some (xh_n σ17))) (ci := 6) (k := 1) (f := 385) dX6_init_19 wF_X6_17 (Nat.le_of_ble_eq_true rfl) (Nat.le_of_ble_eq_true rfl) (xk_arr hf18 hσ20 (xk_R hσ17 (xk_arr hf14 hσ16 hk0))) (Or.inr ⟨rfl, rfl, rfl⟩) rfl rfl (fun σ21 hσ21 => ?_)
  replace hw := hw σ21 hσ21
  refine x_aload_n dX6_init_22 rfl 0 rfl ?_
  refine x_bipush dX6_init_23 cB_40 ?_
  refine x_fresh (fun hf22 => ?_)
  obtain ⟨hm23, hw⟩ := hw
  refine x_newQN (t0 := 2) dX6_init_25 (Nat.le_of_ble_eq_true rfl) wK_X6_21 hm23 (by decide) cN_40 (Nat.le_of_ble_eq_true rfl) (fun σ24 hσ24 => ?_)
  replace hw := hw σ24 hσ24
  refine x_putRN (r := (some (xh_n σ21))) (ci := 6) (k := 2) (f := 386) dX6_init_28 wF_X6_23 (Nat.le_of_ble_eq_true rfl) (Nat.le_of_ble_eq_true rfl) (xk_arr hf22 hσ24 (xk_R hσ21 (xk_arr hf18 hσ20 (xk_R hσ17 (xk_arr hf14 hσ16 hk0))))) (Or.inr ⟨rfl, rfl, rfl⟩) rfl rfl (fun σ25 hσ25 => ?_)
  replace hw := hw σ25 hσ25
  refine x_aload_n dX6_init_31 rfl 0 rfl ?_
  refine x_bipush dX6_init_32 cB_16 ?_
  refine x_fresh (fun hf26 => ?_)
  obtain ⟨hm27, hw⟩ := hw
  refine x_newQN (t0 := 3) dX6_init_34 (Nat.le_of_ble_eq_true rfl) wK_X6_27 hm27 (by decide) cN_16 (Nat.le_of_ble_eq_true rfl) (fun σ28 hσ28 => ?_)
  replace hw := hw σ28 hσ28
  refine x_putRN (r := (some (xh_n σ25))) (ci := 6) (k := 3) (f := 387) dX6_init_37 wF_X6_29 (Nat.le_of_ble_eq_true rfl) (Nat.le_of_ble_eq_true rfl) (xk_arr hf26 hσ28 (xk_R hσ25 (xk_arr hf22 hσ24 (xk_R hσ21 (xk_arr hf18 hσ20 (xk_R hσ17 (xk_arr hf14 hσ16 hk0))))))) (Or.inr ⟨rfl, rfl, rfl⟩) rfl rfl (fun σ29 hσ29 => ?_)
  replace hw := hw σ29 hσ29
  refine x_aload_n dX6_init_40 rfl 0 rfl ?_
  refine x_fresh (fun hf30 => ?_)
  obtain ⟨hm31, hw⟩ := hw
  refine x_newN (ci := 0) dX6_init_41 (Nat.le_of_ble_eq_true rfl) wK_X6_33 wT_X0 wN_X0 hm31 (fun σ32 hσ32 => ?_)
  replace hw := hw σ32 hσ32
  refine x_dup dX6_init_44 rfl ?_
  refine x_callN (M2 := M_X0_init) (As := []) (st := [.ref (xh_n σ29), .ref a0]) rfl rfl (fun U h => h.1.1) wI_X0_init dX6_init_45 rfl ok_X0_init ⟨(Nat.le_of_ble_eq_true rfl), (Nat.le_of_ble_eq_true rfl)⟩ (Nat.le_of_ble_eq_true rfl) (ct_X0_init (xk_self hσ32) hw) (xqV.k (fun τ33 hw2 => ?_))
  obtain ⟨he, hw⟩ := hw2
  subst he
  refine x_putRN (r := (some (xh_n σ29))) (ci := 6) (k := 4) (f := 388) dX6_init_48 wF_X6_36 (Nat.le_of_ble_eq_true rfl) (Nat.le_of_ble_eq_true rfl) (xk_new hf30 hσ32 (xk_R hσ29 (xk_arr hf26 hσ28 (xk_R hσ25 (xk_arr hf22 hσ24 (xk_R hσ21 (xk_arr hf18 hσ20 (xk_R hσ17 (xk_arr hf14 hσ16 hk0))))))))) (Or.inr ⟨rfl, rfl, rfl⟩) rfl rfl (fun σ34 hσ34 => ?_)
  replace hw := hw σ34 hσ34
  refine x_iconst dX6_init_51 cI_0 ?_
  refine x_istore_n [(1, .int 0), (0, .ref a0)] dX6_init_52 rfl (Nat.le_of_ble_eq_true rfl) rfl ?_
  obtain ⟨m53, hw⟩ := hw
  exact x_sub [1, 0] rfl (xl_X6_init_53 m53 _ _ (xk_R hσ34 (xk_new hf30 hσ32 (xk_R hσ29 (xk_arr hf26 hσ28 (xk_R hσ25 (xk_arr hf22 hσ24 (xk_R hσ21 (xk_arr hf18 hσ20 (xk_R hσ17 (xk_arr hf14 hσ16 hk0)))))))))) hw)
-- PromiseWire.isHouse(I)Z
def wb_X6_isHouse_14 (Q : Int32 → Prop) (σ : xS) (s0 : Int32) : Prop := (s0 = 0 ∨ s0 = 1) ∧ Q s0
set_option maxRecDepth 100000 in
set_option maxHeartbeats 4000000 in
theorem xb_X6_isHouse_14 {Q : Int32 → Prop} {σ : xS}  {s0 : Int32}  (hw : wb_X6_isHouse_14 Q σ s0) : xX M_X6_isHouse 14 [] [.int s0] σ (xqI (fun r σ2 => σ = σ2 ∧ Q r )) := by
  unfold wb_X6_isHouse_14 at hw
  obtain ⟨hz1, hw⟩ := hw
  exact x_zret dX6_isHouse_14 rfl hz1 ⟨s0, rfl, rfl, hw⟩
def wb_X6_isHouse_13 (Q : Int32 → Prop) (σ : xS) : Prop := wb_X6_isHouse_14 Q σ 0
set_option maxRecDepth 100000 in
set_option maxHeartbeats 4000000 in
theorem xb_X6_isHouse_13 {Q : Int32 → Prop} {σ : xS}   (hw : wb_X6_isHouse_13 Q σ) : xX M_X6_isHouse 13 [] [] σ (xqI (fun r σ2 => σ = σ2 ∧ Q r )) := by
  unfold wb_X6_isHouse_13 at hw
  refine x_iconst dX6_isHouse_13 cI_0 ?_
  exact x_sub [] rfl (xb_X6_isHouse_14 hw)
def wp_X6_isHouse (σ : xS) (l0 : Int32) (Q : Int32 → Prop) : Prop := (l0 < 0 → wb_X6_isHouse_13 Q σ) ∧ (¬ l0 < 0 → ((4 : Int32) ≤ l0 → wb_X6_isHouse_13 Q σ) ∧ (¬ (4 : Int32) ≤ l0 → wb_X6_isHouse_14 Q σ 1))
set_option maxRecDepth 100000 in
set_option maxHeartbeats 4000000 in
theorem ct_X6_isHouse {σ : xS}  {l0 : Int32} {Q : Int32 → Prop} (hw : wp_X6_isHouse σ l0 Q) : xCt M_X6_isHouse [.int l0] σ (xqI (fun r σ2 => σ = σ2 ∧ Q r )) := by
  refine xCt_ofL (lv := [(0, .int l0)]) pn_X6 (Nat.le_of_ble_eq_true rfl) rfl ?_
  unfold wp_X6_isHouse at hw
  refine x_iload_n dX6_isHouse_0 rfl 0 rfl ?_
  refine x_if_lt 13 dX6_isHouse_1 rfl (fun hc2 => ?_) (fun hc2 => ?_)
  · replace hw := hw.1 hc2
    exact x_sub [] rfl (xb_X6_isHouse_13 hw)
  · replace hw := hw.2 hc2
    refine x_iload_n dX6_isHouse_4 rfl 0 rfl ?_
    refine x_iconst dX6_isHouse_5 cI_4 ?_
    refine x_icmp_ge 13 dX6_isHouse_6 rfl (fun hc3 => ?_) (fun hc3 => ?_)
    · replace hw := hw.1 hc3
      exact x_sub [] rfl (xb_X6_isHouse_13 hw)
    · replace hw := hw.2 hc3
      refine x_iconst dX6_isHouse_9 cI_1 ?_
      refine x_goto 14 dX6_isHouse_10 rfl ?_
      exact x_sub [] rfl (xb_X6_isHouse_14 hw)
-- PromiseWire.mayBegin(II)Z
def wb_X6_mayBegin_73 (Q : Int32 → Prop) (σ : xS) : Prop := Q 0
set_option maxRecDepth 100000 in
set_option maxHeartbeats 4000000 in
theorem xb_X6_mayBegin_73 {Q : Int32 → Prop} {σ : xS}   (hw : wb_X6_mayBegin_73 Q σ) : xX M_X6_mayBegin 73 [] [] σ (xqI (fun r σ2 => σ = σ2 ∧ Q r )) := by
  unfold wb_X6_mayBegin_73 at hw
  refine x_iconst dX6_mayBegin_73 cI_0 ?_
  exact x_zret dX6_mayBegin_74 rfl (Or.inl rfl) ⟨0, rfl, rfl, hw⟩
def wb_X6_mayBegin_72 (Q : Int32 → Prop) (σ : xS) (s0 : Int32) : Prop := (s0 = 0 ∨ s0 = 1) ∧ Q s0
set_option maxRecDepth 100000 in
set_option maxHeartbeats 4000000 in
theorem xb_X6_mayBegin_72 {Q : Int32 → Prop} {σ : xS}  {s0 : Int32}  (hw : wb_X6_mayBegin_72 Q σ s0) : xX M_X6_mayBegin 72 [] [.int s0] σ (xqI (fun r σ2 => σ = σ2 ∧ Q r )) := by
  unfold wb_X6_mayBegin_72 at hw
  obtain ⟨hz1, hw⟩ := hw
  exact x_zret dX6_mayBegin_72 rfl hz1 ⟨s0, rfl, rfl, hw⟩
def wb_X6_mayBegin_71 (Q : Int32 → Prop) (σ : xS) : Prop := wb_X6_mayBegin_72 Q σ 0
set_option maxRecDepth 100000 in
set_option maxHeartbeats 4000000 in
theorem xb_X6_mayBegin_71 {Q : Int32 → Prop} {σ : xS}   (hw : wb_X6_mayBegin_71 Q σ) : xX M_X6_mayBegin 71 [] [] σ (xqI (fun r σ2 => σ = σ2 ∧ Q r )) := by
  unfold wb_X6_mayBegin_71 at hw
  refine x_iconst dX6_mayBegin_71 cI_0 ?_
  exact x_sub [] rfl (xb_X6_mayBegin_72 hw)
def wb_X6_mayBegin_56 (Q : Int32 → Prop) (σ : xS) (l1 : Int32) : Prop := (l1 < 1 → wb_X6_mayBegin_71 Q σ) ∧ (¬ l1 < 1 → ((20 : Int32) < l1 → wb_X6_mayBegin_71 Q σ) ∧ (¬ (20 : Int32) < l1 → wb_X6_mayBegin_72 Q σ 1))
set_option maxRecDepth 100000 in
set_option maxHeartbeats 4000000 in
theorem xb_X6_mayBegin_56 {Q : Int32 → Prop} {σ : xS}  {l1 : Int32}  (hw : wb_X6_mayBegin_56 Q σ l1) : xX M_X6_mayBegin 56 [(1, .int l1)] [] σ (xqI (fun r σ2 => σ = σ2 ∧ Q r )) := by
  unfold wb_X6_mayBegin_56 at hw
  refine x_iload_n dX6_mayBegin_56 rfl 0 rfl ?_
  refine x_iconst dX6_mayBegin_57 cI_1 ?_
  refine x_icmp_lt 71 dX6_mayBegin_58 rfl (fun hc2 => ?_) (fun hc2 => ?_)
  · replace hw := hw.1 hc2
    exact x_sub [] rfl (xb_X6_mayBegin_71 hw)
  · replace hw := hw.2 hc2
    refine x_iload_n dX6_mayBegin_61 rfl 0 rfl ?_
    refine x_bipush dX6_mayBegin_62 cB_20 ?_
    refine x_icmp_gt 71 dX6_mayBegin_64 rfl (fun hc3 => ?_) (fun hc3 => ?_)
    · replace hw := hw.1 hc3
      exact x_sub [] rfl (xb_X6_mayBegin_71 hw)
    · replace hw := hw.2 hc3
      refine x_iconst dX6_mayBegin_67 cI_1 ?_
      refine x_goto 72 dX6_mayBegin_68 rfl ?_
      exact x_sub [] rfl (xb_X6_mayBegin_72 hw)
def wb_X6_mayBegin_55 (Q : Int32 → Prop) (σ : xS) (s0 : Int32) : Prop := (s0 = 0 ∨ s0 = 1) ∧ Q s0
set_option maxRecDepth 100000 in
set_option maxHeartbeats 4000000 in
theorem xb_X6_mayBegin_55 {Q : Int32 → Prop} {σ : xS}  {s0 : Int32}  (hw : wb_X6_mayBegin_55 Q σ s0) : xX M_X6_mayBegin 55 [] [.int s0] σ (xqI (fun r σ2 => σ = σ2 ∧ Q r )) := by
  unfold wb_X6_mayBegin_55 at hw
  obtain ⟨hz4, hw⟩ := hw
  exact x_zret dX6_mayBegin_55 rfl hz4 ⟨s0, rfl, rfl, hw⟩
def wb_X6_mayBegin_44 (Q : Int32 → Prop) (σ : xS) : Prop := Q 1
set_option maxRecDepth 100000 in
set_option maxHeartbeats 4000000 in
theorem xb_X6_mayBegin_44 {Q : Int32 → Prop} {σ : xS}   (hw : wb_X6_mayBegin_44 Q σ) : xX M_X6_mayBegin 44 [] [] σ (xqI (fun r σ2 => σ = σ2 ∧ Q r )) := by
  unfold wb_X6_mayBegin_44 at hw
  refine x_iconst dX6_mayBegin_44 cI_1 ?_
  exact x_zret dX6_mayBegin_45 rfl (Or.inr rfl) ⟨1, rfl, rfl, hw⟩
def wp_X6_mayBegin (σ : xS) (l0 : Int32) (l1 : Int32) (Q : Int32 → Prop) : Prop := (l0 = 0 → wb_X6_mayBegin_44 Q σ) ∧ (¬ l0 = 0 → (l0 = 1 → (l1 < 0 → wb_X6_mayBegin_55 Q σ 0) ∧ (¬ l1 < 0 → wb_X6_mayBegin_55 Q σ 1)) ∧ (¬ l0 = 1 → (l0 = 2 → wb_X6_mayBegin_44 Q σ) ∧ (¬ l0 = 2 → (l0 = 3 → wb_X6_mayBegin_73 Q σ) ∧ (¬ l0 = 3 → (l0 = 4 → wb_X6_mayBegin_73 Q σ) ∧ (¬ l0 = 4 → (l0 = 5 → wb_X6_mayBegin_56 Q σ l1) ∧ (¬ l0 = 5 → (l0 = 6 → wb_X6_mayBegin_56 Q σ l1) ∧ (¬ l0 = 6 → wb_X6_mayBegin_73 Q σ)))))))
set_option maxRecDepth 100000 in
set_option maxHeartbeats 4000000 in
theorem ct_X6_mayBegin {σ : xS}  {l0 : Int32} {l1 : Int32} {Q : Int32 → Prop} (hw : wp_X6_mayBegin σ l0 l1 Q) : xCt M_X6_mayBegin [.int l0, .int l1] σ (xqI (fun r σ2 => σ = σ2 ∧ Q r )) := by
  refine xCt_ofL (lv := [(0, .int l0), (1, .int l1)]) pn_X6 (Nat.le_of_ble_eq_true rfl) rfl ?_
  unfold wp_X6_mayBegin at hw
  refine x_iload_n dX6_mayBegin_0 rfl 0 rfl ?_
  by_cases hc5 : l0 = 0
  · replace hw := hw.1 hc5
    refine x_tableIn (off := 43) 44 dX6_mayBegin_1 (by rw [hc5]; decide) (by rw [hc5]; decide) (by rw [hc5]; rfl) rfl ?_
    exact x_sub [] rfl (xb_X6_mayBegin_44 hw)
  · replace hw := hw.2 hc5
    by_cases hc6 : l0 = 1
    · replace hw := hw.1 hc6
      refine x_tableIn (off := 45) 46 dX6_mayBegin_1 (by rw [hc6]; decide) (by rw [hc6]; decide) (by rw [hc6]; rfl) rfl ?_
      refine x_iload_n dX6_mayBegin_46 rfl 1 rfl ?_
      refine x_if_lt 54 dX6_mayBegin_47 rfl (fun hc7 => ?_) (fun hc7 => ?_)
      · replace hw := hw.1 hc7
        refine x_iconst dX6_mayBegin_54 cI_0 ?_
        exact x_sub [] rfl (xb_X6_mayBegin_55 hw)
      · replace hw := hw.2 hc7
        refine x_iconst dX6_mayBegin_50 cI_1 ?_
        refine x_goto 55 dX6_mayBegin_51 rfl ?_
        exact x_sub [] rfl (xb_X6_mayBegin_55 hw)
    · replace hw := hw.2 hc6
      by_cases hc8 : l0 = 2
      · replace hw := hw.1 hc8
        refine x_tableIn (off := 43) 44 dX6_mayBegin_1 (by rw [hc8]; decide) (by rw [hc8]; decide) (by rw [hc8]; rfl) rfl ?_
        exact x_sub [] rfl (xb_X6_mayBegin_44 hw)
      · replace hw := hw.2 hc8
        by_cases hc9 : l0 = 3
        · replace hw := hw.1 hc9
          refine x_tableIn (off := 72) 73 dX6_mayBegin_1 (by rw [hc9]; decide) (by rw [hc9]; decide) (by rw [hc9]; rfl) rfl ?_
          exact x_sub [] rfl (xb_X6_mayBegin_73 hw)
        · replace hw := hw.2 hc9
          by_cases hc10 : l0 = 4
          · replace hw := hw.1 hc10
            refine x_tableIn (off := 72) 73 dX6_mayBegin_1 (by rw [hc10]; decide) (by rw [hc10]; decide) (by rw [hc10]; rfl) rfl ?_
            exact x_sub [] rfl (xb_X6_mayBegin_73 hw)
          · replace hw := hw.2 hc10
            by_cases hc11 : l0 = 5
            · replace hw := hw.1 hc11
              refine x_tableIn (off := 55) 56 dX6_mayBegin_1 (by rw [hc11]; decide) (by rw [hc11]; decide) (by rw [hc11]; rfl) rfl ?_
              exact x_sub [1] rfl (xb_X6_mayBegin_56 hw)
            · replace hw := hw.2 hc11
              by_cases hc12 : l0 = 6
              · replace hw := hw.1 hc12
                refine x_tableIn (off := 55) 56 dX6_mayBegin_1 (by rw [hc12]; decide) (by rw [hc12]; decide) (by rw [hc12]; rfl) rfl ?_
                exact x_sub [1] rfl (xb_X6_mayBegin_56 hw)
              · replace hw := hw.2 hc12
                refine x_tableOut 73 dX6_mayBegin_1 (xsw_0_6 hc5 hc6 hc8 hc9 hc10 hc11 hc12) rfl ?_
                exact x_sub [] rfl (xb_X6_mayBegin_73 hw)
-- PromiseWire.addThing(IIILPromiseWire$Thing;I)I
def wp_X6_addThing (σ : xS) (a0 : Nat) (l1 : Int32) (l2 : Int32) (l3 : Int32) (l4 : Option Nat) (l5 : Int32) (Q : Int32 → xS → Prop) : Prop := ((xh_I σ 389 a0) < 40 → xh_n σ < xh_m σ ∧ ∀ σ4, σ4 = xs_new σ 3 → (wp_X3_init σ4 (xh_n σ) (xh_I σ 389 a0) l1 l2 l3 l4 l5 (fun σ5 => xw6 σ5 a0 ∧ (vp_in (xh_I σ 389 a0) 40 ∧ xh_k σ5 (xh_n σ) = 4 ∧ ∀ σ8, σ8 = xs_q σ5 (a0 + 1) (xh_I σ 389 a0).toNatClampNeg (some (xh_n σ)) → (∀ σ9, σ9 = xs_I σ8 389 a0 ((xh_I σ8 389 a0) + 1) → (Q (xh_I σ 389 a0) σ9)))))) ∧ (¬ (xh_I σ 389 a0) < 40 → Q (-3) σ)
set_option maxRecDepth 100000 in
set_option maxHeartbeats 4000000 in
theorem ct_X6_addThing {σ : xS} {a0 : Nat}  {l1 : Int32} {l2 : Int32} {l3 : Int32} {l4 : Option Nat} {l5 : Int32} {Q : Int32 → xS → Prop} (hW : xw6 σ a0) (hw : wp_X6_addThing σ a0 l1 l2 l3 l4 l5 Q) : xCt M_X6_addThing [.ref a0, .int l1, .int l2, .int l3, va_rf l4, .int l5] σ (xqI (fun r σ2 => xw6 σ2 a0 ∧ Q r σ2)) := by
  refine xCt_ofL (lv := [(0, .ref a0), (1, .int l1), (2, .int l2), (3, .int l3), (4, va_rf l4), (5, .int l5)]) pn_X6 (by simp [lg_sl, xcat, xcatI, xcatR, xcatL, xcatN] <;> decide) (by simp [lv_args, xcat, xcatI, xcatR, xcatL, xcatN]) ?_
  unfold wp_X6_addThing at hw
  refine x_aload_n dX6_addThing_0 rfl 0 rfl ?_
  refine x_get (ci := 6) (k := 5) (v := .int (xh_I σ 389 a0)) dX6_addThing_1 wF_X6_228 (Nat.le_of_ble_eq_true rfl) (Nat.le_of_ble_eq_true rfl) hW.1 rfl ?_
  refine x_istore [(6, .int (xh_I σ 389 a0)), (0, .ref a0), (1, .int l1), (2, .int l2), (3, .int l3), (4, va_rf l4), (5, .int l5)] dX6_addThing_4 (Nat.le_of_ble_eq_true rfl) rfl ?_
  refine x_iload dX6_addThing_6 0 rfl ?_
  refine x_aload_n dX6_addThing_8 rfl 1 rfl ?_
  refine x_get (ci := 6) (k := 0) (v := .ref (a0 + 1)) dX6_addThing_9 wF_X6_11 (Nat.le_of_ble_eq_true rfl) (Nat.le_of_ble_eq_true rfl) hW.1 (congrArg va_rf (w6r_1 hW)) ?_
  refine x_alenZ (t := 2) (v := 40) dX6_addThing_12 (w6k_1 hW) (Nat.le_of_ble_eq_true rfl) (w6z_1 hW) rfl ?_
  refine x_icmp_lt 19 dX6_addThing_13 rfl (fun hc1 => ?_) (fun hc1 => ?_)
  · replace hw := hw.1 hc1
    refine x_aload_n dX6_addThing_19 rfl 1 rfl ?_
    refine x_get (ci := 6) (k := 0) (v := .ref (a0 + 1)) dX6_addThing_20 wF_X6_11 (Nat.le_of_ble_eq_true rfl) (Nat.le_of_ble_eq_true rfl) hW.1 (congrArg va_rf (w6r_1 hW)) ?_
    refine x_iload dX6_addThing_23 0 rfl ?_
    refine x_fresh (fun hf2 => ?_)
    obtain ⟨hm3, hw⟩ := hw
    refine x_newN (ci := 3) dX6_addThing_25 (Nat.le_of_ble_eq_true rfl) wK_X6_9 wT_X3 wN_X3 hm3 (fun σ4 hσ4 => ?_)
    replace hw := hw σ4 hσ4
    refine x_dup dX6_addThing_28 rfl ?_
    refine x_iload dX6_addThing_29 0 rfl ?_
    refine x_iload_n dX6_addThing_31 rfl 2 rfl ?_
    refine x_iload_n dX6_addThing_32 rfl 3 rfl ?_
    refine x_iload_n dX6_addThing_33 rfl 4 rfl ?_
    refine x_aloadQ dX6_addThing_34 5 rfl ?_
    refine x_iload dX6_addThing_36 6 rfl ?_
    refine x_callI (M2 := M_X3_init) (As := [.int (xh_I σ 389 a0), .int l1, .int l2, .int l3, va_rf l4, .int l5]) (st := [.ref (xh_n σ), .int (xh_I σ 389 a0), .ref (a0 + 1)]) rfl rfl wM_X6_257 wI_X3_init dX6_addThing_38 rfl ok_X3_init ⟨(Nat.le_of_ble_eq_true rfl), (Nat.le_of_ble_eq_true rfl)⟩ (Nat.le_of_ble_eq_true rfl) (ct_X3_init (xk_self hσ4) hw) (xqV.k (fun σ5 hw2 => ?_))
    obtain ⟨hW, hw⟩ := hw2
    obtain ⟨hv6, hw⟩ := hw
    obtain ⟨hk7, hw⟩ := hw
    refine x_aastN (t := 0) dX6_addThing_41 (w6k_1 hW) (Nat.le_of_ble_eq_true rfl) hk7 (w6z_1 hW) hv6 (fun σ8 hσ8 => ?_)
    replace hw := hw σ8 hσ8
    refine x_aload_n dX6_addThing_42 rfl 1 rfl ?_
    refine x_dup dX6_addThing_43 rfl ?_
    have hW := (xw6_q hσ8 hW)
    refine x_get (ci := 6) (k := 5) (v := .int (xh_I σ8 389 a0)) dX6_addThing_44 wF_X6_228 (Nat.le_of_ble_eq_true rfl) (Nat.le_of_ble_eq_true rfl) hW.1 rfl ?_
    refine x_iconst dX6_addThing_47 cI_1 ?_
    refine x_iadd dX6_addThing_48 ?_
    refine x_putIN (ci := 6) (k := 5) (f := 389) dX6_addThing_49 wF_X6_228 (Nat.le_of_ble_eq_true rfl) (Nat.le_of_ble_eq_true rfl) hW.1 (Or.inl rfl) rfl (Or.inl rfl) (fun σ9 hσ9 => ?_)
    replace hw := hw σ9 hσ9
    refine x_iload dX6_addThing_52 0 rfl ?_
    have hW := (xw6_I hσ9 hW)
    exact x_iret dX6_addThing_54 rfl ⟨(xh_I σ 389 a0), rfl, hW, hw⟩
  · replace hw := hw.2 hc1
    refine x_bipush dX6_addThing_16 cB_m3 ?_
    exact x_iret dX6_addThing_18 rfl ⟨(-3), rfl, hW, hw⟩
-- PromiseWire.thing(III)I
def wb_X6_thing_15 (Q : Int32 → xS → Prop) (σ : xS) (a0 : Nat) : Prop := Q (-1) σ
set_option maxRecDepth 100000 in
set_option maxHeartbeats 4000000 in
theorem xb_X6_thing_15 {Q : Int32 → xS → Prop} {σ : xS} {a0 : Nat}  (hW : xw6 σ a0)  (hw : wb_X6_thing_15 Q σ a0) : xX M_X6_thing 15 [(0, .ref a0)] [] σ (xqI (fun r σ2 => xw6 σ2 a0 ∧ Q r σ2)) := by
  unfold wb_X6_thing_15 at hw
  refine x_iconst dX6_thing_15 cI_m1 ?_
  exact x_iret dX6_thing_16 rfl ⟨(-1), rfl, hW, hw⟩
def wp_X6_thing (σ : xS) (a0 : Nat) (l1 : Int32) (l2 : Int32) (l3 : Int32) (Q : Int32 → xS → Prop) : Prop := wp_X6_isHouse σ l1 (fun x1 => (x1 = 0 → wb_X6_thing_15 Q σ a0) ∧ (¬ x1 = 0 → wp_X6_mayBegin σ l2 l3 (fun x4 => (x4 = 0 → wb_X6_thing_15 Q σ a0) ∧ (¬ x4 = 0 → wp_X6_addThing σ a0 l1 l2 l3 none 0 (fun x7 σ8 => Q x7 σ8)))))
set_option maxRecDepth 100000 in
set_option maxHeartbeats 4000000 in
theorem ct_X6_thing {σ : xS} {a0 : Nat}  {l1 : Int32} {l2 : Int32} {l3 : Int32} {Q : Int32 → xS → Prop} (hW : xw6 σ a0) (hw : wp_X6_thing σ a0 l1 l2 l3 Q) : xCt M_X6_thing [.ref a0, .int l1, .int l2, .int l3] σ (xqI (fun r σ2 => xw6 σ2 a0 ∧ Q r σ2)) := by
  refine xCt_ofL (lv := [(0, .ref a0), (1, .int l1), (2, .int l2), (3, .int l3)]) pn_X6 (Nat.le_of_ble_eq_true rfl) rfl ?_
  unfold wp_X6_thing at hw
  refine x_iload_n dX6_thing_0 rfl 1 rfl ?_
  refine x_callS (M2 := M_X6_isHouse) (As := [.int l1]) (st := []) wM_X6_43 wZ_X6_isHouse dX6_thing_1 rfl ok_X6_isHouse ⟨(Nat.le_of_ble_eq_true rfl), (Nat.le_of_ble_eq_true rfl)⟩ (Nat.le_of_ble_eq_true rfl) (ct_X6_isHouse hw) (xqI.k (fun x1 τ2 hw2 => ?_))
  obtain ⟨he, hw⟩ := hw2
  subst he
  refine x_if_eq 15 dX6_thing_4 rfl (fun hc3 => ?_) (fun hc3 => ?_)
  · replace hw := hw.1 hc3
    exact x_sub [0] rfl (xb_X6_thing_15 hW hw)
  · replace hw := hw.2 hc3
    refine x_iload_n dX6_thing_7 rfl 2 rfl ?_
    refine x_iload_n dX6_thing_8 rfl 3 rfl ?_
    refine x_callS (M2 := M_X6_mayBegin) (As := [.int l2, .int l3]) (st := []) wM_X6_47 wZ_X6_mayBegin dX6_thing_9 rfl ok_X6_mayBegin ⟨(Nat.le_of_ble_eq_true rfl), (Nat.le_of_ble_eq_true rfl)⟩ (Nat.le_of_ble_eq_true rfl) (ct_X6_mayBegin hw) (xqI.k (fun x4 τ5 hw2 => ?_))
    obtain ⟨he, hw⟩ := hw2
    subst he
    refine x_if_ne 17 dX6_thing_12 rfl (fun hc6 => ?_) (fun hc6 => ?_)
    · replace hw := hw.2 hc6
      refine x_aload_n dX6_thing_17 rfl 0 rfl ?_
      refine x_iload_n dX6_thing_18 rfl 1 rfl ?_
      refine x_iload_n dX6_thing_19 rfl 2 rfl ?_
      refine x_iload_n dX6_thing_20 rfl 3 rfl ?_
      refine x_null dX6_thing_21 ?_
      refine x_iconst dX6_thing_22 cI_0 ?_
      refine x_callV (M2 := M_X6_addThing) (As := [.int l1, .int l2, .int l3, va_rf none, .int 0]) (st := []) (ci := 6) (Nat.le_of_ble_eq_true rfl) hW.1 rfl wM_X6_51 wI_X6_addThing wS_X6_addThing dX6_thing_23 rfl ok_X6_addThing ⟨(Nat.le_of_ble_eq_true rfl), (Nat.le_of_ble_eq_true rfl)⟩ (Nat.le_of_ble_eq_true rfl) (ct_X6_addThing hW hw) (xqI.k (fun x7 σ8 hw2 => ?_))
      obtain ⟨hW, hw⟩ := hw2
      exact x_iret dX6_thing_26 rfl ⟨x7, rfl, hW, hw⟩
    · replace hw := hw.1 hc6
      exact x_sub [0] rfl (xb_X6_thing_15 hW hw)
-- PromiseWire.thingAt(I)LPromiseWire$Thing;
def wb_X6_thingAt_31 (Q : Option Nat → Prop) (σ : xS) (a0 : Nat) (s0 : Option Nat) : Prop := Q s0
set_option maxRecDepth 100000 in
set_option maxHeartbeats 4000000 in
theorem xb_X6_thingAt_31 {Q : Option Nat → Prop} {σ : xS} {a0 : Nat}  {s0 : Option Nat} (hW : xw6 σ a0)  (hw : wb_X6_thingAt_31 Q σ a0 s0) : xX M_X6_thingAt 31 [(0, .ref a0)] [va_rf s0] σ (xqR (fun r σ2 => σ = σ2 ∧ Q r )) := by
  unfold wb_X6_thingAt_31 at hw
  exact x_aret (r := s0) dX6_thingAt_31 rfl ⟨s0, rfl, rfl, hw⟩
def wb_X6_thingAt_21 (Q : Option Nat → Prop) (σ : xS) (a0 : Nat) : Prop := wb_X6_thingAt_31 Q σ a0 none
set_option maxRecDepth 100000 in
set_option maxHeartbeats 4000000 in
theorem xb_X6_thingAt_21 {Q : Option Nat → Prop} {σ : xS} {a0 : Nat}  (hW : xw6 σ a0)  (hw : wb_X6_thingAt_21 Q σ a0) : xX M_X6_thingAt 21 [(0, .ref a0)] [] σ (xqR (fun r σ2 => σ = σ2 ∧ Q r )) := by
  unfold wb_X6_thingAt_21 at hw
  refine x_null dX6_thingAt_21 ?_
  refine x_goto 31 dX6_thingAt_22 rfl ?_
  exact x_sub [0] rfl (xb_X6_thingAt_31 hW hw)
def wp_X6_thingAt (σ : xS) (a0 : Nat) (l1 : Int32) (Q : Option Nat → Prop) : Prop := (l1 < 0 → wb_X6_thingAt_21 Q σ a0) ∧ (¬ l1 < 0 → ((xh_I σ 389 a0) ≤ l1 → wb_X6_thingAt_21 Q σ a0) ∧ (¬ (xh_I σ 389 a0) ≤ l1 → (l1 < 40 → vp_in l1 40 ∧ (wb_X6_thingAt_31 Q σ a0 (xh_q σ (a0 + 1) l1.toNatClampNeg))) ∧ (¬ l1 < 40 → wb_X6_thingAt_21 Q σ a0)))
set_option maxRecDepth 100000 in
set_option maxHeartbeats 4000000 in
theorem ct_X6_thingAt {σ : xS} {a0 : Nat}  {l1 : Int32} {Q : Option Nat → Prop} (hW : xw6 σ a0) (hw : wp_X6_thingAt σ a0 l1 Q) : xCt M_X6_thingAt [.ref a0, .int l1] σ (xqR (fun r σ2 => σ = σ2 ∧ Q r )) := by
  refine xCt_ofL (lv := [(0, .ref a0), (1, .int l1)]) pn_X6 (Nat.le_of_ble_eq_true rfl) rfl ?_
  unfold wp_X6_thingAt at hw
  refine x_iload_n dX6_thingAt_0 rfl 1 rfl ?_
  refine x_if_lt 21 dX6_thingAt_1 rfl (fun hc1 => ?_) (fun hc1 => ?_)
  · replace hw := hw.1 hc1
    exact x_sub [0] rfl (xb_X6_thingAt_21 hW hw)
  · replace hw := hw.2 hc1
    refine x_iload_n dX6_thingAt_4 rfl 1 rfl ?_
    refine x_aload_n dX6_thingAt_5 rfl 0 rfl ?_
    refine x_get (ci := 6) (k := 5) (v := .int (xh_I σ 389 a0)) dX6_thingAt_6 wF_X6_228 (Nat.le_of_ble_eq_true rfl) (Nat.le_of_ble_eq_true rfl) hW.1 rfl ?_
    refine x_icmp_ge 21 dX6_thingAt_9 rfl (fun hc2 => ?_) (fun hc2 => ?_)
    · replace hw := hw.1 hc2
      exact x_sub [0] rfl (xb_X6_thingAt_21 hW hw)
    · replace hw := hw.2 hc2
      refine x_iload_n dX6_thingAt_12 rfl 1 rfl ?_
      refine x_aload_n dX6_thingAt_13 rfl 0 rfl ?_
      refine x_get (ci := 6) (k := 0) (v := .ref (a0 + 1)) dX6_thingAt_14 wF_X6_11 (Nat.le_of_ble_eq_true rfl) (Nat.le_of_ble_eq_true rfl) hW.1 (congrArg va_rf (w6r_1 hW)) ?_
      refine x_alenZ (t := 2) (v := 40) dX6_thingAt_17 (w6k_1 hW) (Nat.le_of_ble_eq_true rfl) (w6z_1 hW) rfl ?_
      refine x_icmp_lt 25 dX6_thingAt_18 rfl (fun hc3 => ?_) (fun hc3 => ?_)
      · replace hw := hw.1 hc3
        refine x_aload_n dX6_thingAt_25 rfl 0 rfl ?_
        refine x_get (ci := 6) (k := 0) (v := .ref (a0 + 1)) dX6_thingAt_26 wF_X6_11 (Nat.le_of_ble_eq_true rfl) (Nat.le_of_ble_eq_true rfl) hW.1 (congrArg va_rf (w6r_1 hW)) ?_
        refine x_iload_n dX6_thingAt_29 rfl 1 rfl ?_
        obtain ⟨hv4, hw⟩ := hw
        refine x_aaldZ (t := 0) dX6_thingAt_30 (w6k_1 hW) (Nat.le_of_ble_eq_true rfl) (w6z_1 hW) hv4 ?_
        exact x_sub [0] rfl (xb_X6_thingAt_31 hW hw)
      · replace hw := hw.2 hc3
        exact x_sub [0] rfl (xb_X6_thingAt_21 hW hw)
-- PromiseWire.guard(IIIZ)I
def wb_X6_guard_44 (Q : Int32 → xS → Prop) (σ : xS) (a0 : Nat) (l3 : Int32) (l5 : Nat) (s1 : Int32) (s2 : Int32) : Prop := wp_X6_addThing σ a0 s1 s2 0 (some l5) l3 (fun x1 σ2 => Q x1 σ2)
set_option maxRecDepth 100000 in
set_option maxHeartbeats 4000000 in
theorem xb_X6_guard_44 {Q : Int32 → xS → Prop} {σ : xS} {a0 : Nat}  {l3 : Int32} {l5 : Nat} {s1 : Int32} {s2 : Int32} (hW : xw6 σ a0)  (hw : wb_X6_guard_44 Q σ a0 l3 l5 s1 s2) : xX M_X6_guard 44 [(0, .ref a0), (3, .int l3), (5, .ref l5)] [.int s2, .int s1, .ref a0] σ (xqI (fun r σ2 => xw6 σ2 a0 ∧ Q r σ2)) := by
  unfold wb_X6_guard_44 at hw
  refine x_iconst dX6_guard_44 cI_0 ?_
  refine x_aload dX6_guard_45 2 rfl ?_
  refine x_iload_n dX6_guard_47 rfl 1 rfl ?_
  refine x_callV (M2 := M_X6_addThing) (As := [.int s1, .int s2, .int 0, va_rf (some l5), .int l3]) (st := []) (ci := 6) (Nat.le_of_ble_eq_true rfl) hW.1 rfl wM_X6_51 wI_X6_addThing wS_X6_addThing dX6_guard_48 rfl ok_X6_addThing ⟨(Nat.le_of_ble_eq_true rfl), (Nat.le_of_ble_eq_true rfl)⟩ (Nat.le_of_ble_eq_true rfl) (ct_X6_addThing hW hw) (xqI.k (fun x1 σ2 hw2 => ?_))
  obtain ⟨hW, hw⟩ := hw2
  exact x_iret dX6_guard_51 rfl ⟨x1, rfl, hW, hw⟩
def wb_X6_guard_30 (Q : Int32 → xS → Prop) (σ : xS) (a0 : Nat) : Prop := Q (-1) σ
set_option maxRecDepth 100000 in
set_option maxHeartbeats 4000000 in
theorem xb_X6_guard_30 {Q : Int32 → xS → Prop} {σ : xS} {a0 : Nat}  (hW : xw6 σ a0)  (hw : wb_X6_guard_30 Q σ a0) : xX M_X6_guard 30 [(0, .ref a0)] [] σ (xqI (fun r σ2 => xw6 σ2 a0 ∧ Q r σ2)) := by
  unfold wb_X6_guard_30 at hw
  refine x_iconst dX6_guard_30 cI_m1 ?_
  exact x_iret dX6_guard_31 rfl ⟨(-1), rfl, hW, hw⟩
def wp_X6_guard (σ : xS) (a0 : Nat) (l1 : Int32) (l2 : Int32) (l3 : Int32) (l4 : Int32) (Q : Int32 → xS → Prop) : Prop := wp_X6_thingAt σ a0 l2 (fun x3 => wp_X6_isHouse σ l1 (fun x5 => (x5 = 0 → wb_X6_guard_30 Q σ a0) ∧ (¬ x5 = 0 → (x3 = none → wb_X6_guard_30 Q σ a0) ∧ (∀ a9, x3 = some a9 → (l3 < 0 → wb_X6_guard_30 Q σ a0) ∧ (¬ l3 < 0 → (l3 ≤ 255 → (l4 = 0 → wb_X6_guard_44 Q σ a0 l3 a9 l1 3) ∧ (¬ l4 = 0 → wb_X6_guard_44 Q σ a0 l3 a9 l1 4)) ∧ (¬ l3 ≤ 255 → wb_X6_guard_30 Q σ a0))))))
set_option maxRecDepth 100000 in
set_option maxHeartbeats 4000000 in
theorem ct_X6_guard {σ : xS} {a0 : Nat}  {l1 : Int32} {l2 : Int32} {l3 : Int32} {l4 : Int32} {Q : Int32 → xS → Prop} (hW : xw6 σ a0) (hw : wp_X6_guard σ a0 l1 l2 l3 l4 Q) : xCt M_X6_guard [.ref a0, .int l1, .int l2, .int l3, .int l4] σ (xqI (fun r σ2 => xw6 σ2 a0 ∧ Q r σ2)) := by
  refine xCt_ofL (lv := [(0, .ref a0), (1, .int l1), (2, .int l2), (3, .int l3), (4, .int l4)]) pn_X6 (Nat.le_of_ble_eq_true rfl) rfl ?_
  unfold wp_X6_guard at hw
  refine x_aload_n dX6_guard_0 rfl 0 rfl ?_
  refine x_iload_n dX6_guard_1 rfl 2 rfl ?_
  refine x_callV (M2 := M_X6_thingAt) (As := [.int l2]) (st := []) (ci := 6) (Nat.le_of_ble_eq_true rfl) hW.1 rfl wM_X6_55 wI_X6_thingAt wS_X6_thingAt dX6_guard_2 rfl ok_X6_thingAt ⟨(Nat.le_of_ble_eq_true rfl), (Nat.le_of_ble_eq_true rfl)⟩ (Nat.le_of_ble_eq_true rfl) (ct_X6_thingAt hW hw) (xqR.k (fun x3 τ4 hw2 => ?_))
  obtain ⟨he, hw⟩ := hw2
  subst he
  refine x_astoreQ [(5, va_rf x3), (0, .ref a0), (1, .int l1), (2, .int l2), (3, .int l3), (4, .int l4)] dX6_guard_5 (Nat.le_of_ble_eq_true rfl) rfl ?_
  refine x_iload_n dX6_guard_7 rfl 2 rfl ?_
  refine x_callS (M2 := M_X6_isHouse) (As := [.int l1]) (st := []) wM_X6_43 wZ_X6_isHouse dX6_guard_8 rfl ok_X6_isHouse ⟨(Nat.le_of_ble_eq_true rfl), (Nat.le_of_ble_eq_true rfl)⟩ (Nat.le_of_ble_eq_true rfl) (ct_X6_isHouse hw) (xqI.k (fun x5 τ6 hw2 => ?_))
  obtain ⟨he, hw⟩ := hw2
  subst he
  refine x_if_eq 30 dX6_guard_11 rfl (fun hc7 => ?_) (fun hc7 => ?_)
  · replace hw := hw.1 hc7
    exact x_sub [1] rfl (xb_X6_guard_30 hW hw)
  · replace hw := hw.2 hc7
    refine x_aloadQ dX6_guard_14 0 rfl ?_
    refine x_ifnull 30 dX6_guard_16 rfl (fun hn8 => ?_) (fun a9 hs10 => ?_)
    · replace hw := hw.1 hn8
      exact x_sub [1] rfl (xb_X6_guard_30 hW hw)
    · replace hw := hw.2 a9 hs10
      refine x_lvS 0 (lv2 := [(5, .ref a9), (0, .ref a0), (1, .int l1), (2, .int l2), (3, .int l3), (4, .int l4)]) rfl hs10 rfl ?_
      refine x_iload_n dX6_guard_19 rfl 4 rfl ?_
      refine x_if_lt 30 dX6_guard_20 rfl (fun hc11 => ?_) (fun hc11 => ?_)
      · replace hw := hw.1 hc11
        exact x_sub [1] rfl (xb_X6_guard_30 hW hw)
      · replace hw := hw.2 hc11
        refine x_iload_n dX6_guard_23 rfl 4 rfl ?_
        refine x_sipush dX6_guard_24 cS_255 ?_
        refine x_icmp_le 32 dX6_guard_27 rfl (fun hc12 => ?_) (fun hc12 => ?_)
        · replace hw := hw.1 hc12
          refine x_aload_n dX6_guard_32 rfl 1 rfl ?_
          refine x_iload_n dX6_guard_33 rfl 2 rfl ?_
          refine x_iload dX6_guard_34 5 rfl ?_
          refine x_if_eq 43 dX6_guard_36 rfl (fun hc13 => ?_) (fun hc13 => ?_)
          · replace hw := hw.1 hc13
            refine x_iconst dX6_guard_43 cI_3 ?_
            exact x_sub [1, 4, 0] rfl (xb_X6_guard_44 hW hw)
          · replace hw := hw.2 hc13
            refine x_iconst dX6_guard_39 cI_4 ?_
            refine x_goto 44 dX6_guard_40 rfl ?_
            exact x_sub [1, 4, 0] rfl (xb_X6_guard_44 hW hw)
        · replace hw := hw.2 hc12
          exact x_sub [1] rfl (xb_X6_guard_30 hW hw)
-- PromiseWire.oneIf(Z)I
def wb_X6_oneIf_9 (Q : Int32 → Prop) (σ : xS) (s0 : Int32) : Prop := Q s0
set_option maxRecDepth 100000 in
set_option maxHeartbeats 4000000 in
theorem xb_X6_oneIf_9 {Q : Int32 → Prop} {σ : xS}  {s0 : Int32}  (hw : wb_X6_oneIf_9 Q σ s0) : xX M_X6_oneIf 9 [] [.int s0] σ (xqI (fun r σ2 => σ = σ2 ∧ Q r )) := by
  unfold wb_X6_oneIf_9 at hw
  exact x_iret dX6_oneIf_9 rfl ⟨s0, rfl, rfl, hw⟩
def wp_X6_oneIf (σ : xS) (l0 : Int32) (Q : Int32 → Prop) : Prop := (l0 = 0 → wb_X6_oneIf_9 Q σ 0) ∧ (¬ l0 = 0 → wb_X6_oneIf_9 Q σ 1)
set_option maxRecDepth 100000 in
set_option maxHeartbeats 4000000 in
theorem ct_X6_oneIf {σ : xS}  {l0 : Int32} {Q : Int32 → Prop} (hw : wp_X6_oneIf σ l0 Q) : xCt M_X6_oneIf [.int l0] σ (xqI (fun r σ2 => σ = σ2 ∧ Q r )) := by
  refine xCt_ofL (lv := [(0, .int l0)]) pn_X6 (Nat.le_of_ble_eq_true rfl) rfl ?_
  unfold wp_X6_oneIf at hw
  refine x_iload_n dX6_oneIf_0 rfl 0 rfl ?_
  refine x_if_eq 8 dX6_oneIf_1 rfl (fun hc1 => ?_) (fun hc1 => ?_)
  · replace hw := hw.1 hc1
    refine x_iconst dX6_oneIf_8 cI_0 ?_
    exact x_sub [] rfl (xb_X6_oneIf_9 hw)
  · replace hw := hw.2 hc1
    refine x_iconst dX6_oneIf_4 cI_1 ?_
    refine x_goto 9 dX6_oneIf_5 rfl ?_
    exact x_sub [] rfl (xb_X6_oneIf_9 hw)
-- PromiseWire.shut(IZ)I
def wb_X6_shut_28 (Q : Int32 → xS → Prop) (σ : xS) (a0 : Nat) (l2 : Int32) (l3 : Nat) : Prop := xh_k σ l3 = 4 ∧ (wp_X6_oneIf σ (xh_I σ 199 l3) (fun x2 => (l2 = 0 ∨ l2 = 1) ∧ ∀ σ5, σ5 = xs_I σ 199 l3 l2 → (Q x2 σ5)))
set_option maxRecDepth 100000 in
set_option maxHeartbeats 4000000 in
theorem xb_X6_shut_28 {Q : Int32 → xS → Prop} {σ : xS} {a0 : Nat}  {l2 : Int32} {l3 : Nat} (hW : xw6 σ a0)  (hw : wb_X6_shut_28 Q σ a0 l2 l3) : xX M_X6_shut 28 [(0, .ref a0), (2, .int l2), (3, .ref l3)] [] σ (xqI (fun r σ2 => xw6 σ2 a0 ∧ Q r σ2)) := by
  unfold wb_X6_shut_28 at hw
  refine x_aload_n dX6_shut_28 rfl 2 rfl ?_
  obtain ⟨hk1, hw⟩ := hw
  refine x_get (ci := 3) (k := 7) (v := .int (xh_I σ 199 l3)) dX6_shut_29 wF_X6_63 (Nat.le_of_ble_eq_true rfl) (Nat.le_of_ble_eq_true rfl) hk1 rfl ?_
  refine x_callS (M2 := M_X6_oneIf) (As := [.int (xh_I σ 199 l3)]) (st := []) wM_X6_67 wZ_X6_oneIf dX6_shut_32 rfl ok_X6_oneIf ⟨(Nat.le_of_ble_eq_true rfl), (Nat.le_of_ble_eq_true rfl)⟩ (Nat.le_of_ble_eq_true rfl) (ct_X6_oneIf hw) (xqI.k (fun x2 τ3 hw2 => ?_))
  obtain ⟨he, hw⟩ := hw2
  subst he
  refine x_istore [(4, .int x2), (0, .ref a0), (2, .int l2), (3, .ref l3)] dX6_shut_35 (Nat.le_of_ble_eq_true rfl) rfl ?_
  refine x_aload_n dX6_shut_37 rfl 3 rfl ?_
  refine x_iload_n dX6_shut_38 rfl 2 rfl ?_
  obtain ⟨hz4, hw⟩ := hw
  refine x_putIN (ci := 3) (k := 7) (f := 199) dX6_shut_39 wF_X6_63 (Nat.le_of_ble_eq_true rfl) (Nat.le_of_ble_eq_true rfl) hk1 (Or.inl rfl) rfl (Or.inr ⟨rfl, hz4⟩) (fun σ5 hσ5 => ?_)
  replace hw := hw σ5 hσ5
  refine x_iload dX6_shut_42 0 rfl ?_
  have hW := (xw6_I hσ5 hW)
  exact x_iret dX6_shut_44 rfl ⟨x2, rfl, hW, hw⟩
def wb_X6_shut_26 (Q : Int32 → xS → Prop) (σ : xS) (a0 : Nat) : Prop := Q (-1) σ
set_option maxRecDepth 100000 in
set_option maxHeartbeats 4000000 in
theorem xb_X6_shut_26 {Q : Int32 → xS → Prop} {σ : xS} {a0 : Nat}  (hW : xw6 σ a0)  (hw : wb_X6_shut_26 Q σ a0) : xX M_X6_shut 26 [(0, .ref a0)] [] σ (xqI (fun r σ2 => xw6 σ2 a0 ∧ Q r σ2)) := by
  unfold wb_X6_shut_26 at hw
  refine x_iconst dX6_shut_26 cI_m1 ?_
  exact x_iret dX6_shut_27 rfl ⟨(-1), rfl, hW, hw⟩
def wp_X6_shut (σ : xS) (a0 : Nat) (l1 : Int32) (l2 : Int32) (Q : Int32 → xS → Prop) : Prop := wp_X6_thingAt σ a0 l1 (fun x6 => (x6 = none → wb_X6_shut_26 Q σ a0) ∧ (∀ a9, x6 = some a9 → xh_k σ a9 = 4 ∧ (((xh_I σ 194 a9) = 3 → wb_X6_shut_28 Q σ a0 l2 a9) ∧ (¬ (xh_I σ 194 a9) = 3 → ((xh_I σ 194 a9) = 4 → wb_X6_shut_28 Q σ a0 l2 a9) ∧ (¬ (xh_I σ 194 a9) = 4 → wb_X6_shut_26 Q σ a0)))))
set_option maxRecDepth 100000 in
set_option maxHeartbeats 4000000 in
theorem ct_X6_shut {σ : xS} {a0 : Nat}  {l1 : Int32} {l2 : Int32} {Q : Int32 → xS → Prop} (hW : xw6 σ a0) (hw : wp_X6_shut σ a0 l1 l2 Q) : xCt M_X6_shut [.ref a0, .int l1, .int l2] σ (xqI (fun r σ2 => xw6 σ2 a0 ∧ Q r σ2)) := by
  refine xCt_ofL (lv := [(0, .ref a0), (1, .int l1), (2, .int l2)]) pn_X6 (Nat.le_of_ble_eq_true rfl) rfl ?_
  unfold wp_X6_shut at hw
  refine x_aload_n dX6_shut_0 rfl 0 rfl ?_
  refine x_iload_n dX6_shut_1 rfl 1 rfl ?_
  refine x_callV (M2 := M_X6_thingAt) (As := [.int l1]) (st := []) (ci := 6) (Nat.le_of_ble_eq_true rfl) hW.1 rfl wM_X6_55 wI_X6_thingAt wS_X6_thingAt dX6_shut_2 rfl ok_X6_thingAt ⟨(Nat.le_of_ble_eq_true rfl), (Nat.le_of_ble_eq_true rfl)⟩ (Nat.le_of_ble_eq_true rfl) (ct_X6_thingAt hW hw) (xqR.k (fun x6 τ7 hw2 => ?_))
  obtain ⟨he, hw⟩ := hw2
  subst he
  refine x_astore_nQ [(3, va_rf x6), (0, .ref a0), (1, .int l1), (2, .int l2)] dX6_shut_5 rfl (Nat.le_of_ble_eq_true rfl) rfl ?_
  refine x_aload_nQ dX6_shut_6 rfl 0 rfl ?_
  refine x_ifnull 26 dX6_shut_7 rfl (fun hn8 => ?_) (fun a9 hs10 => ?_)
  · replace hw := hw.1 hn8
    exact x_sub [1] rfl (xb_X6_shut_26 hW hw)
  · replace hw := hw.2 a9 hs10
    refine x_lvS 0 (lv2 := [(3, .ref a9), (0, .ref a0), (1, .int l1), (2, .int l2)]) rfl hs10 rfl ?_
    refine x_aload_n dX6_shut_10 rfl 0 rfl ?_
    obtain ⟨hk11, hw⟩ := hw
    refine x_get (ci := 3) (k := 2) (v := .int (xh_I σ 194 a9)) dX6_shut_11 wF_X6_59 (Nat.le_of_ble_eq_true rfl) (Nat.le_of_ble_eq_true rfl) hk11 rfl ?_
    refine x_iconst dX6_shut_14 cI_3 ?_
    refine x_icmp_eq 28 dX6_shut_15 rfl (fun hc12 => ?_) (fun hc12 => ?_)
    · replace hw := hw.1 hc12
      exact x_sub [1, 3, 0] rfl (xb_X6_shut_28 hW hw)
    · replace hw := hw.2 hc12
      refine x_aload_n dX6_shut_18 rfl 0 rfl ?_
      refine x_get (ci := 3) (k := 2) (v := .int (xh_I σ 194 a9)) dX6_shut_19 wF_X6_59 (Nat.le_of_ble_eq_true rfl) (Nat.le_of_ble_eq_true rfl) hk11 rfl ?_
      refine x_iconst dX6_shut_22 cI_4 ?_
      refine x_icmp_eq 28 dX6_shut_23 rfl (fun hc13 => ?_) (fun hc13 => ?_)
      · replace hw := hw.1 hc13
        exact x_sub [1, 3, 0] rfl (xb_X6_shut_28 hW hw)
      · replace hw := hw.2 hc13
        exact x_sub [1] rfl (xb_X6_shut_26 hW hw)
-- PromiseWire.back(I)I
def wb_X6_back_32 (Q : Int32 → xS → Prop) (σ : xS) (a0 : Nat) (l2 : Nat) (s0 : Int32) : Prop := wp_X6_oneIf σ s0 (fun x1 => xh_k σ l2 = 4 ∧ ∀ σ4, σ4 = xs_I σ 200 l2 1 → (Q x1 σ4))
set_option maxRecDepth 100000 in
set_option maxHeartbeats 4000000 in
theorem xb_X6_back_32 {Q : Int32 → xS → Prop} {σ : xS} {a0 : Nat}  {l2 : Nat} {s0 : Int32} (hW : xw6 σ a0)  (hw : wb_X6_back_32 Q σ a0 l2 s0) : xX M_X6_back 32 [(0, .ref a0), (2, .ref l2)] [.int s0] σ (xqI (fun r σ2 => xw6 σ2 a0 ∧ Q r σ2)) := by
  unfold wb_X6_back_32 at hw
  refine x_callS (M2 := M_X6_oneIf) (As := [.int s0]) (st := []) wM_X6_67 wZ_X6_oneIf dX6_back_32 rfl ok_X6_oneIf ⟨(Nat.le_of_ble_eq_true rfl), (Nat.le_of_ble_eq_true rfl)⟩ (Nat.le_of_ble_eq_true rfl) (ct_X6_oneIf hw) (xqI.k (fun x1 τ2 hw2 => ?_))
  obtain ⟨he, hw⟩ := hw2
  subst he
  refine x_istore_n [(3, .int x1), (0, .ref a0), (2, .ref l2)] dX6_back_35 rfl (Nat.le_of_ble_eq_true rfl) rfl ?_
  refine x_aload_n dX6_back_36 rfl 2 rfl ?_
  refine x_iconst dX6_back_37 cI_1 ?_
  obtain ⟨hk3, hw⟩ := hw
  refine x_putIN (ci := 3) (k := 8) (f := 200) dX6_back_38 wF_X6_71 (Nat.le_of_ble_eq_true rfl) (Nat.le_of_ble_eq_true rfl) hk3 (Or.inl rfl) rfl (Or.inr ⟨rfl, (Or.inr rfl)⟩) (fun σ4 hσ4 => ?_)
  replace hw := hw σ4 hσ4
  refine x_iload_n dX6_back_41 rfl 0 rfl ?_
  have hW := (xw6_I hσ4 hW)
  exact x_iret dX6_back_42 rfl ⟨x1, rfl, hW, hw⟩
def wb_X6_back_18 (Q : Int32 → xS → Prop) (σ : xS) (a0 : Nat) : Prop := Q (-1) σ
set_option maxRecDepth 100000 in
set_option maxHeartbeats 4000000 in
theorem xb_X6_back_18 {Q : Int32 → xS → Prop} {σ : xS} {a0 : Nat}  (hW : xw6 σ a0)  (hw : wb_X6_back_18 Q σ a0) : xX M_X6_back 18 [(0, .ref a0)] [] σ (xqI (fun r σ2 => xw6 σ2 a0 ∧ Q r σ2)) := by
  unfold wb_X6_back_18 at hw
  refine x_iconst dX6_back_18 cI_m1 ?_
  exact x_iret dX6_back_19 rfl ⟨(-1), rfl, hW, hw⟩
def wp_X6_back (σ : xS) (a0 : Nat) (l1 : Int32) (Q : Int32 → xS → Prop) : Prop := wp_X6_thingAt σ a0 l1 (fun x5 => (x5 = none → wb_X6_back_18 Q σ a0) ∧ (∀ a8, x5 = some a8 → xh_k σ a8 = 4 ∧ (((xh_I σ 194 a8) = 4 → ((xh_I σ 200 a8) = 0 → wb_X6_back_32 Q σ a0 a8 1) ∧ (¬ (xh_I σ 200 a8) = 0 → wb_X6_back_32 Q σ a0 a8 0)) ∧ (¬ (xh_I σ 194 a8) = 4 → wb_X6_back_18 Q σ a0))))
set_option maxRecDepth 100000 in
set_option maxHeartbeats 4000000 in
theorem ct_X6_back {σ : xS} {a0 : Nat}  {l1 : Int32} {Q : Int32 → xS → Prop} (hW : xw6 σ a0) (hw : wp_X6_back σ a0 l1 Q) : xCt M_X6_back [.ref a0, .int l1] σ (xqI (fun r σ2 => xw6 σ2 a0 ∧ Q r σ2)) := by
  refine xCt_ofL (lv := [(0, .ref a0), (1, .int l1)]) pn_X6 (Nat.le_of_ble_eq_true rfl) rfl ?_
  unfold wp_X6_back at hw
  refine x_aload_n dX6_back_0 rfl 0 rfl ?_
  refine x_iload_n dX6_back_1 rfl 1 rfl ?_
  refine x_callV (M2 := M_X6_thingAt) (As := [.int l1]) (st := []) (ci := 6) (Nat.le_of_ble_eq_true rfl) hW.1 rfl wM_X6_55 wI_X6_thingAt wS_X6_thingAt dX6_back_2 rfl ok_X6_thingAt ⟨(Nat.le_of_ble_eq_true rfl), (Nat.le_of_ble_eq_true rfl)⟩ (Nat.le_of_ble_eq_true rfl) (ct_X6_thingAt hW hw) (xqR.k (fun x5 τ6 hw2 => ?_))
  obtain ⟨he, hw⟩ := hw2
  subst he
  refine x_astore_nQ [(2, va_rf x5), (0, .ref a0), (1, .int l1)] dX6_back_5 rfl (Nat.le_of_ble_eq_true rfl) rfl ?_
  refine x_aload_nQ dX6_back_6 rfl 0 rfl ?_
  refine x_ifnull 18 dX6_back_7 rfl (fun hn7 => ?_) (fun a8 hs9 => ?_)
  · replace hw := hw.1 hn7
    exact x_sub [1] rfl (xb_X6_back_18 hW hw)
  · replace hw := hw.2 a8 hs9
    refine x_lvS 0 (lv2 := [(2, .ref a8), (0, .ref a0), (1, .int l1)]) rfl hs9 rfl ?_
    refine x_aload_n dX6_back_10 rfl 0 rfl ?_
    obtain ⟨hk10, hw⟩ := hw
    refine x_get (ci := 3) (k := 2) (v := .int (xh_I σ 194 a8)) dX6_back_11 wF_X6_59 (Nat.le_of_ble_eq_true rfl) (Nat.le_of_ble_eq_true rfl) hk10 rfl ?_
    refine x_iconst dX6_back_14 cI_4 ?_
    refine x_icmp_eq 20 dX6_back_15 rfl (fun hc11 => ?_) (fun hc11 => ?_)
    · replace hw := hw.1 hc11
      refine x_aload_n dX6_back_20 rfl 0 rfl ?_
      refine x_get (ci := 3) (k := 8) (v := .int (xh_I σ 200 a8)) dX6_back_21 wF_X6_71 (Nat.le_of_ble_eq_true rfl) (Nat.le_of_ble_eq_true rfl) hk10 rfl ?_
      refine x_if_ne 31 dX6_back_24 rfl (fun hc12 => ?_) (fun hc12 => ?_)
      · replace hw := hw.2 hc12
        refine x_iconst dX6_back_31 cI_0 ?_
        exact x_sub [1, 0] rfl (xb_X6_back_32 hW hw)
      · replace hw := hw.1 hc12
        refine x_iconst dX6_back_27 cI_1 ?_
        refine x_goto 32 dX6_back_28 rfl ?_
        exact x_sub [1, 0] rfl (xb_X6_back_32 hW hw)
    · replace hw := hw.2 hc11
      exact x_sub [1] rfl (xb_X6_back_18 hW hw)
-- PromiseWire.wireAt(II)LPromiseWire$Wire;
def wb_X6_wireAt_18 (Q : Option Nat → Prop) (σ : xS) (a0 : Nat) : Prop := Q none
set_option maxRecDepth 100000 in
set_option maxHeartbeats 4000000 in
theorem xb_X6_wireAt_18 {Q : Option Nat → Prop} {σ : xS} {a0 : Nat}  (hW : xw6 σ a0)  (hw : wb_X6_wireAt_18 Q σ a0) : xX M_X6_wireAt 18 [(0, .ref a0)] [] σ (xqR (fun r σ2 => σ = σ2 ∧ Q r )) := by
  unfold wb_X6_wireAt_18 at hw
  refine x_null dX6_wireAt_18 ?_
  exact x_aret (r := none) dX6_wireAt_19 rfl ⟨none, rfl, rfl, hw⟩
def wp_X6_wireAt (σ : xS) (a0 : Nat) (l1 : Int32) (l2 : Int32) (Q : Option Nat → Prop) : Prop := (l1 < 0 → wb_X6_wireAt_18 Q σ a0) ∧ (¬ l1 < 0 → ((4 : Int32) ≤ l1 → wb_X6_wireAt_18 Q σ a0) ∧ (¬ (4 : Int32) ≤ l1 → (l2 < 0 → wb_X6_wireAt_18 Q σ a0) ∧ (¬ l2 < 0 → (l2 < 4 → vp_in ((l1 * 4) + l2) 16 ∧ (Q (xh_q σ (a0 + 4) ((l1 * 4) + l2).toNatClampNeg))) ∧ (¬ l2 < 4 → wb_X6_wireAt_18 Q σ a0))))
set_option maxRecDepth 100000 in
set_option maxHeartbeats 4000000 in
theorem ct_X6_wireAt {σ : xS} {a0 : Nat}  {l1 : Int32} {l2 : Int32} {Q : Option Nat → Prop} (hW : xw6 σ a0) (hw : wp_X6_wireAt σ a0 l1 l2 Q) : xCt M_X6_wireAt [.ref a0, .int l1, .int l2] σ (xqR (fun r σ2 => σ = σ2 ∧ Q r )) := by
  refine xCt_ofL (lv := [(0, .ref a0), (1, .int l1), (2, .int l2)]) pn_X6 (Nat.le_of_ble_eq_true rfl) rfl ?_
  unfold wp_X6_wireAt at hw
  refine x_iload_n dX6_wireAt_0 rfl 1 rfl ?_
  refine x_if_lt 18 dX6_wireAt_1 rfl (fun hc1 => ?_) (fun hc1 => ?_)
  · replace hw := hw.1 hc1
    exact x_sub [0] rfl (xb_X6_wireAt_18 hW hw)
  · replace hw := hw.2 hc1
    refine x_iload_n dX6_wireAt_4 rfl 1 rfl ?_
    refine x_iconst dX6_wireAt_5 cI_4 ?_
    refine x_icmp_ge 18 dX6_wireAt_6 rfl (fun hc2 => ?_) (fun hc2 => ?_)
    · replace hw := hw.1 hc2
      exact x_sub [0] rfl (xb_X6_wireAt_18 hW hw)
    · replace hw := hw.2 hc2
      refine x_iload_n dX6_wireAt_9 rfl 2 rfl ?_
      refine x_if_lt 18 dX6_wireAt_10 rfl (fun hc3 => ?_) (fun hc3 => ?_)
      · replace hw := hw.1 hc3
        exact x_sub [0] rfl (xb_X6_wireAt_18 hW hw)
      · replace hw := hw.2 hc3
        refine x_iload_n dX6_wireAt_13 rfl 2 rfl ?_
        refine x_iconst dX6_wireAt_14 cI_4 ?_
        refine x_icmp_lt 20 dX6_wireAt_15 rfl (fun hc4 => ?_) (fun hc4 => ?_)
        · replace hw := hw.1 hc4
          refine x_aload_n dX6_wireAt_20 rfl 0 rfl ?_
          refine x_get (ci := 6) (k := 3) (v := .ref (a0 + 4)) dX6_wireAt_21 wF_X6_29 (Nat.le_of_ble_eq_true rfl) (Nat.le_of_ble_eq_true rfl) hW.1 (congrArg va_rf (w6r_4 hW)) ?_
          refine x_iload_n dX6_wireAt_24 rfl 1 rfl ?_
          refine x_iconst dX6_wireAt_25 cI_4 ?_
          refine x_imul dX6_wireAt_26 ?_
          refine x_iload_n dX6_wireAt_27 rfl 2 rfl ?_
          refine x_iadd dX6_wireAt_28 ?_
          obtain ⟨hv5, hw⟩ := hw
          refine x_aaldZ (t := 3) dX6_wireAt_29 (w6k_4 hW) (Nat.le_of_ble_eq_true rfl) (w6z_4 hW) hv5 ?_
          exact x_aret (r := (xh_q σ (a0 + 4) ((l1 * 4) + l2).toNatClampNeg)) dX6_wireAt_30 rfl ⟨(xh_q σ (a0 + 4) ((l1 * 4) + l2).toNatClampNeg), rfl, rfl, hw⟩
        · replace hw := hw.2 hc4
          exact x_sub [0] rfl (xb_X6_wireAt_18 hW hw)
-- PromiseWire.post(LPromiseWire$Message;II)Z
def wb_X6_post_31 (Q : Int32 → xS → Prop) (σ : xS) (a0 : Nat) : Prop := Q 0 σ
set_option maxRecDepth 100000 in
set_option maxHeartbeats 4000000 in
theorem xb_X6_post_31 {Q : Int32 → xS → Prop} {σ : xS} {a0 : Nat}  (hW : xw6 σ a0)  (hw : wb_X6_post_31 Q σ a0) : xX M_X6_post 31 [(0, .ref a0)] [] σ (xqI (fun r σ2 => xw6 σ2 a0 ∧ Q r σ2)) := by
  unfold wb_X6_post_31 at hw
  refine x_iconst dX6_post_31 cI_0 ?_
  exact x_zret dX6_post_32 rfl (Or.inl rfl) ⟨0, rfl, hW, hw⟩
def wp_X6_post (σ : xS) (a0 : Nat) (l1 : Nat) (l2 : Int32) (l3 : Int32) (Q : Int32 → xS → Prop) : Prop := xh_k σ l1 = 2 ∧ (∀ σ2, σ2 = xs_I σ 75 l1 ((xh_I σ 75 l1) + 1) → (wp_X6_wireAt σ2 a0 l2 l3 (fun x3 => (x3 = none → wb_X6_post_31 Q σ2 a0) ∧ (∀ a6, x3 = some a6 → xh_k σ2 a6 = 6 ∧ (((xh_I σ2 323 a6) = 0 → ∃ r10, xh_R σ2 322 a6 = some r10 ∧ (xh_k σ2 r10 = 1 ∧ wp_X0_add σ2 r10 l1 (fun σ13 => xw6 σ13 a0 ∧ (Q 1 σ13)))) ∧ (¬ (xh_I σ2 323 a6) = 0 → wb_X6_post_31 Q σ2 a0))))))
set_option maxRecDepth 100000 in
set_option maxHeartbeats 4000000 in
theorem ct_X6_post {σ : xS} {a0 : Nat}  {l1 : Nat} {l2 : Int32} {l3 : Int32} {Q : Int32 → xS → Prop} (hW : xw6 σ a0) (hw : wp_X6_post σ a0 l1 l2 l3 Q) : xCt M_X6_post [.ref a0, .ref l1, .int l2, .int l3] σ (xqI (fun r σ2 => xw6 σ2 a0 ∧ Q r σ2)) := by
  refine xCt_ofL (lv := [(0, .ref a0), (1, .ref l1), (2, .int l2), (3, .int l3)]) pn_X6 (Nat.le_of_ble_eq_true rfl) rfl ?_
  unfold wp_X6_post at hw
  refine x_aload_n dX6_post_0 rfl 1 rfl ?_
  refine x_dup dX6_post_1 rfl ?_
  obtain ⟨hk1, hw⟩ := hw
  refine x_get (ci := 1) (k := 11) (v := .int (xh_I σ 75 l1)) dX6_post_2 wF_X6_170 (Nat.le_of_ble_eq_true rfl) (Nat.le_of_ble_eq_true rfl) hk1 rfl ?_
  refine x_iconst dX6_post_5 cI_1 ?_
  refine x_iadd dX6_post_6 ?_
  refine x_putIN (ci := 1) (k := 11) (f := 75) dX6_post_7 wF_X6_170 (Nat.le_of_ble_eq_true rfl) (Nat.le_of_ble_eq_true rfl) hk1 (Or.inl rfl) rfl (Or.inl rfl) (fun σ2 hσ2 => ?_)
  replace hw := hw σ2 hσ2
  refine x_aload_n dX6_post_10 rfl 0 rfl ?_
  refine x_iload_n dX6_post_11 rfl 2 rfl ?_
  refine x_iload_n dX6_post_12 rfl 3 rfl ?_
  have hW := (xw6_I hσ2 hW)
  refine x_callV (M2 := M_X6_wireAt) (As := [.int l2, .int l3]) (st := []) (ci := 6) (Nat.le_of_ble_eq_true rfl) hW.1 rfl wM_X6_176 wI_X6_wireAt wS_X6_wireAt dX6_post_13 rfl ok_X6_wireAt ⟨(Nat.le_of_ble_eq_true rfl), (Nat.le_of_ble_eq_true rfl)⟩ (Nat.le_of_ble_eq_true rfl) (ct_X6_wireAt hW hw) (xqR.k (fun x3 τ4 hw2 => ?_))
  obtain ⟨he, hw⟩ := hw2
  subst he
  refine x_astoreQ [(4, va_rf x3), (0, .ref a0), (1, .ref l1), (2, .int l2), (3, .int l3)] dX6_post_16 (Nat.le_of_ble_eq_true rfl) rfl ?_
  refine x_aloadQ dX6_post_18 0 rfl ?_
  refine x_ifnull 31 dX6_post_20 rfl (fun hn5 => ?_) (fun a6 hs7 => ?_)
  · replace hw := hw.1 hn5
    exact x_sub [1] rfl (xb_X6_post_31 hW hw)
  · replace hw := hw.2 a6 hs7
    refine x_lvS 0 (lv2 := [(4, .ref a6), (0, .ref a0), (1, .ref l1), (2, .int l2), (3, .int l3)]) rfl hs7 rfl ?_
    refine x_aload dX6_post_23 0 rfl ?_
    obtain ⟨hk8, hw⟩ := hw
    refine x_get (ci := 5) (k := 3) (v := .int (xh_I σ2 323 a6)) dX6_post_25 wF_X6_197 (Nat.le_of_ble_eq_true rfl) (Nat.le_of_ble_eq_true rfl) hk8 rfl ?_
    refine x_if_eq 33 dX6_post_28 rfl (fun hc9 => ?_) (fun hc9 => ?_)
    · replace hw := hw.1 hc9
      refine x_aload dX6_post_33 0 rfl ?_
      obtain ⟨r10, hr11, hw⟩ := hw
      refine x_get (ci := 5) (k := 2) (v := .ref r10) dX6_post_35 wF_X6_200 (Nat.le_of_ble_eq_true rfl) (Nat.le_of_ble_eq_true rfl) hk8 (congrArg va_rf hr11) ?_
      refine x_aload_n dX6_post_38 rfl 2 rfl ?_
      obtain ⟨hk12, hw⟩ := hw
      refine x_callV (M2 := M_X0_add) (As := [.ref l1]) (st := []) (ci := 0) (Nat.le_of_ble_eq_true rfl) hk12 rfl wM_X6_313 wI_X0_add wS_X0_add dX6_post_39 rfl ok_X0_add ⟨(Nat.le_of_ble_eq_true rfl), (Nat.le_of_ble_eq_true rfl)⟩ (Nat.le_of_ble_eq_true rfl) (ct_X0_add hk12 hw) (xqV.k (fun σ13 hw2 => ?_))
      obtain ⟨hW, hw⟩ := hw2
      refine x_iconst dX6_post_42 cI_1 ?_
      exact x_zret dX6_post_43 rfl (Or.inr rfl) ⟨1, rfl, hW, hw⟩
    · replace hw := hw.2 hc9
      exact x_sub [1] rfl (xb_X6_post_31 hW hw)
-- PromiseWire.settle(LPromiseWire$Message;I)V
def wb_X6_settle_64 (Q : xS → Prop) (σ : xS) (a0 : Nat) : Prop := Q σ
set_option maxRecDepth 100000 in
set_option maxHeartbeats 4000000 in
theorem xb_X6_settle_64 {Q : xS → Prop} {σ : xS} {a0 : Nat}  (hW : xw6 σ a0)  (hw : wb_X6_settle_64 Q σ a0) : xX M_X6_settle 64 [(0, .ref a0)] [] σ (xqV (fun σ2 => xw6 σ2 a0 ∧ Q σ2)) := by
  unfold wb_X6_settle_64 at hw
  exact x_vret dX6_settle_64 rfl ⟨rfl, hW, hw⟩
def wp_X6_settle (σ : xS) (a0 : Nat) (l1 : Nat) (l2 : Int32) (Q : xS → Prop) : Prop := xh_k σ l1 = 2 ∧ ∀ σ2, σ2 = xs_I σ 74 l1 0 → ((xh_R σ2 64 l1 = none → Q σ2) ∧ (∀ a4, xh_R σ2 64 l1 = some a4 → ∀ σ6, σ6 = xs_I σ2 71 l1 1 → (xh_k σ6 a4 = 3 ∧ ((l2 = (xh_I σ6 130 a4) → wp_X0_add σ6 (a0 + 5) l1 (fun σ15 => xw6 σ15 a0 ∧ (wb_X6_settle_64 Q σ15 a0))) ∧ (¬ l2 = (xh_I σ6 130 a4) → wp_X6_post σ6 a0 l1 l2 (xh_I σ6 130 a4) (fun x9 σ10 => (x9 = 0 → xh_k σ10 l1 = 2 ∧ wp_X1_breakByCut σ10 l1 (fun σ13 => xw6 σ13 a0 ∧ (wp_X0_add σ13 (a0 + 5) l1 (fun σ14 => xw6 σ14 a0 ∧ (wb_X6_settle_64 Q σ14 a0))))) ∧ (¬ x9 = 0 → wb_X6_settle_64 Q σ10 a0)))))))
set_option maxRecDepth 100000 in
set_option maxHeartbeats 4000000 in
theorem ct_X6_settle {σ : xS} {a0 : Nat}  {l1 : Nat} {l2 : Int32} {Q : xS → Prop} (hW : xw6 σ a0) (hw : wp_X6_settle σ a0 l1 l2 Q) : xCt M_X6_settle [.ref a0, .ref l1, .int l2] σ (xqV (fun σ2 => xw6 σ2 a0 ∧ Q σ2)) := by
  refine xCt_ofL (lv := [(0, .ref a0), (1, .ref l1), (2, .int l2)]) pn_X6 (Nat.le_of_ble_eq_true rfl) rfl ?_
  unfold wp_X6_settle at hw
  refine x_aload_n dX6_settle_0 rfl 1 rfl ?_
  refine x_iconst dX6_settle_1 cI_0 ?_
  obtain ⟨hk1, hw⟩ := hw
  refine x_putIN (ci := 1) (k := 10) (f := 74) dX6_settle_2 wF_X6_173 (Nat.le_of_ble_eq_true rfl) (Nat.le_of_ble_eq_true rfl) hk1 (Or.inl rfl) rfl (Or.inl rfl) (fun σ2 hσ2 => ?_)
  replace hw := hw σ2 hσ2
  refine x_aload_n dX6_settle_5 rfl 1 rfl ?_
  refine x_get (ci := 1) (k := 0) (v := va_rf (xh_R σ2 64 l1)) dX6_settle_6 wF_X6_132 (Nat.le_of_ble_eq_true rfl) (Nat.le_of_ble_eq_true rfl) (xk_I hσ2 hk1) rfl ?_
  refine x_astore_nQ [(3, va_rf (xh_R σ2 64 l1)), (0, .ref a0), (1, .ref l1), (2, .int l2)] dX6_settle_9 rfl (Nat.le_of_ble_eq_true rfl) rfl ?_
  refine x_aload_nQ dX6_settle_10 rfl 0 rfl ?_
  refine x_ifnonnull 15 dX6_settle_11 rfl (fun hn3 => ?_) (fun a4 hs5 => ?_)
  · replace hw := hw.1 hn3
    have hW := (xw6_I hσ2 hW)
    exact x_vret dX6_settle_14 rfl ⟨rfl, hW, hw⟩
  · replace hw := hw.2 a4 hs5
    refine x_lvS 0 (lv2 := [(3, .ref a4), (0, .ref a0), (1, .ref l1), (2, .int l2)]) rfl hs5 rfl ?_
    refine x_aload_n dX6_settle_15 rfl 2 rfl ?_
    refine x_iconst dX6_settle_16 cI_1 ?_
    refine x_putIN (ci := 1) (k := 7) (f := 71) dX6_settle_17 wF_X6_213 (Nat.le_of_ble_eq_true rfl) (Nat.le_of_ble_eq_true rfl) (xk_I hσ2 hk1) (Or.inl rfl) rfl (Or.inr ⟨rfl, (Or.inr rfl)⟩) (fun σ6 hσ6 => ?_)
    replace hw := hw σ6 hσ6
    refine x_iload_n dX6_settle_20 rfl 3 rfl ?_
    refine x_aload_n dX6_settle_21 rfl 0 rfl ?_
    obtain ⟨hk7, hw⟩ := hw
    refine x_get (ci := 2) (k := 2) (v := .int (xh_I σ6 130 a4)) dX6_settle_22 wF_X6_160 (Nat.le_of_ble_eq_true rfl) (Nat.le_of_ble_eq_true rfl) hk7 rfl ?_
    refine x_icmp_ne 39 dX6_settle_25 rfl (fun hc8 => ?_) (fun hc8 => ?_)
    · replace hw := hw.2 hc8
      refine x_aload_n dX6_settle_39 rfl 1 rfl ?_
      refine x_aload_n dX6_settle_40 rfl 2 rfl ?_
      refine x_iload_n dX6_settle_41 rfl 3 rfl ?_
      refine x_aload_n dX6_settle_42 rfl 0 rfl ?_
      refine x_get (ci := 2) (k := 2) (v := .int (xh_I σ6 130 a4)) dX6_settle_43 wF_X6_160 (Nat.le_of_ble_eq_true rfl) (Nat.le_of_ble_eq_true rfl) hk7 rfl ?_
      have hW := (xw6_I hσ6 (xw6_I hσ2 hW))
      refine x_callV (M2 := M_X6_post) (As := [.ref l1, .int l2, .int (xh_I σ6 130 a4)]) (st := []) (ci := 6) (Nat.le_of_ble_eq_true rfl) hW.1 rfl wM_X6_324 wI_X6_post wS_X6_post dX6_settle_46 rfl ok_X6_post ⟨(Nat.le_of_ble_eq_true rfl), (Nat.le_of_ble_eq_true rfl)⟩ (Nat.le_of_ble_eq_true rfl) (ct_X6_post hW hw) (xqI.k (fun x9 σ10 hw2 => ?_))
      obtain ⟨hW, hw⟩ := hw2
      refine x_if_ne 64 dX6_settle_49 rfl (fun hc11 => ?_) (fun hc11 => ?_)
      · replace hw := hw.2 hc11
        exact x_sub [1] rfl (xb_X6_settle_64 hW hw)
      · replace hw := hw.1 hc11
        refine x_aload_n dX6_settle_52 rfl 2 rfl ?_
        obtain ⟨hk12, hw⟩ := hw
        refine x_callV (M2 := M_X1_breakByCut) (As := []) (st := []) (ci := 1) (Nat.le_of_ble_eq_true rfl) hk12 rfl wM_X6_328 wI_X1_breakByCut wS_X1_breakByCut dX6_settle_53 rfl ok_X1_breakByCut ⟨(Nat.le_of_ble_eq_true rfl), (Nat.le_of_ble_eq_true rfl)⟩ (Nat.le_of_ble_eq_true rfl) (ct_X1_breakByCut hk12 hw) (xqV.k (fun σ13 hw2 => ?_))
        obtain ⟨hW, hw⟩ := hw2
        refine x_aload_n dX6_settle_56 rfl 1 rfl ?_
        refine x_get (ci := 6) (k := 4) (v := .ref (a0 + 5)) dX6_settle_57 wF_X6_36 (Nat.le_of_ble_eq_true rfl) (Nat.le_of_ble_eq_true rfl) hW.1 (congrArg va_rf (w6r_5 hW)) ?_
        refine x_aload_n dX6_settle_60 rfl 2 rfl ?_
        refine x_callV (M2 := M_X0_add) (As := [.ref l1]) (st := []) (ci := 0) (Nat.le_of_ble_eq_true rfl) (w6k_5 hW) rfl wM_X6_313 wI_X0_add wS_X0_add dX6_settle_61 rfl ok_X0_add ⟨(Nat.le_of_ble_eq_true rfl), (Nat.le_of_ble_eq_true rfl)⟩ (Nat.le_of_ble_eq_true rfl) (ct_X0_add (w6k_5 hW) hw) (xqV.k (fun σ14 hw2 => ?_))
        obtain ⟨hW, hw⟩ := hw2
        exact x_sub [1] rfl (xb_X6_settle_64 hW hw)
    · replace hw := hw.1 hc8
      refine x_aload_n dX6_settle_28 rfl 1 rfl ?_
      have hW := (xw6_I hσ6 (xw6_I hσ2 hW))
      refine x_get (ci := 6) (k := 4) (v := .ref (a0 + 5)) dX6_settle_29 wF_X6_36 (Nat.le_of_ble_eq_true rfl) (Nat.le_of_ble_eq_true rfl) hW.1 (congrArg va_rf (w6r_5 hW)) ?_
      refine x_aload_n dX6_settle_32 rfl 2 rfl ?_
      refine x_callV (M2 := M_X0_add) (As := [.ref l1]) (st := []) (ci := 0) (Nat.le_of_ble_eq_true rfl) (w6k_5 hW) rfl wM_X6_313 wI_X0_add wS_X0_add dX6_settle_33 rfl ok_X0_add ⟨(Nat.le_of_ble_eq_true rfl), (Nat.le_of_ble_eq_true rfl)⟩ (Nat.le_of_ble_eq_true rfl) (ct_X0_add (w6k_5 hW) hw) (xqV.k (fun σ15 hw2 => ?_))
      obtain ⟨hW, hw⟩ := hw2
      refine x_goto 64 dX6_settle_36 rfl ?_
      exact x_sub [1] rfl (xb_X6_settle_64 hW hw)
-- PromiseWire.answerHeld(LPromiseWire$Thing;I)I
def wb_X6_answerHeld_49 (Q : Int32 → xS → Prop) (K11 : xS → Nat → Int32 → Int32 → Int32 → Prop) (σ : xS) (a0 : Nat) (l1 : Nat) (l2 : Int32) (l3 : Int32) (l4 : Int32) : Prop := K11 σ l1 l2 l3 (l4 + 1)
set_option maxRecDepth 100000 in
set_option maxHeartbeats 4000000 in
theorem xb_X6_answerHeld_49 {Q : Int32 → xS → Prop} {K11 : xS → Nat → Int32 → Int32 → Int32 → Prop} {σ : xS} {a0 : Nat}  {l1 : Nat} {l2 : Int32} {l3 : Int32} {l4 : Int32} (hW : xw6 σ a0)  (hK11 : ∀ (σ : xS) (l1 : Nat) (l2 : Int32) (l3 : Int32) (l4 : Int32), xw6 σ a0 → K11 σ l1 l2 l3 l4 → xX M_X6_answerHeld 11 [(0, .ref a0), (1, .ref l1), (2, .int l2), (3, .int l3), (4, .int l4)] [] σ (xqI (fun r σ2 => xw6 σ2 a0 ∧ Q r σ2))) (hw : wb_X6_answerHeld_49 Q K11 σ a0 l1 l2 l3 l4) : xX M_X6_answerHeld 49 [(0, .ref a0), (1, .ref l1), (2, .int l2), (3, .int l3), (4, .int l4)] [] σ (xqI (fun r σ2 => xw6 σ2 a0 ∧ Q r σ2)) := by
  unfold wb_X6_answerHeld_49 at hw
  refine x_iinc [(4, .int (l4 + 1)), (0, .ref a0), (1, .ref l1), (2, .int l2), (3, .int l3)] dX6_answerHeld_49 4 rfl (congrArg _ cI_1) (Nat.le_of_ble_eq_true rfl) rfl ?_
  refine x_goto 11 dX6_answerHeld_52 rfl ?_
  exact x_sub [1, 2, 3, 4, 0] rfl (hK11 _ _ _ _ _ hW hw)
def wb_X6_answerHeld_11 (Q : Int32 → xS → Prop) (a0 : Nat) : Nat → xS → Nat → Int32 → Int32 → Int32 → Prop
  | 0, _, _, _, _, _ => False
  | n + 1, σ, l1, l2, l3, l4 => (l3 ≤ l4 → Q l3 σ) ∧ (¬ l3 ≤ l4 → xh_k σ l1 = 4 ∧ ∃ r3, xh_R σ 197 l1 = some r3 ∧ (xh_k σ r3 = 1 ∧ wp_X0_take σ r3 (fun x6 σ7 => xw6 σ7 a0 ∧ ((x6 = none → wb_X6_answerHeld_49 Q (fun σ l1 l2 l3 l4 => wb_X6_answerHeld_11 Q a0 n σ l1 l2 l3 l4) σ7 a0 l1 l2 l3 l4) ∧ (∀ a9, x6 = some a9 → xh_k σ7 a9 = 2 ∧ wp_X1_answer σ7 a9 1 l2 (fun x12 σ13 => xw6 σ13 a0 ∧ (xh_k σ13 l1 = 4 ∧ (wp_X6_settle σ13 a0 a9 (xh_I σ13 193 l1) (fun σ15 => wb_X6_answerHeld_49 Q (fun σ l1 l2 l3 l4 => wb_X6_answerHeld_11 Q a0 n σ l1 l2 l3 l4) σ15 a0 l1 l2 l3 l4)))))))))
set_option maxRecDepth 100000 in
set_option maxHeartbeats 4000000 in
theorem xl_X6_answerHeld_11 {Q : Int32 → xS → Prop} {a0 : Nat}  : ∀ (n : Nat) (σ : xS) (l1 : Nat) (l2 : Int32) (l3 : Int32) (l4 : Int32), xw6 σ a0 → wb_X6_answerHeld_11 Q a0 n σ l1 l2 l3 l4 → xX M_X6_answerHeld 11 [(0, .ref a0), (1, .ref l1), (2, .int l2), (3, .int l3), (4, .int l4)] [] σ (xqI (fun r σ2 => xw6 σ2 a0 ∧ Q r σ2)) := by
  intro n
  induction n with
  | zero => intro σ l1 l2 l3 l4 hW hw; exact False.elim hw
  | succ n ih =>
    intro σ l1 l2 l3 l4 hW hw
    unfold wb_X6_answerHeld_11 at hw
    refine x_iload dX6_answerHeld_11 4 rfl ?_
    refine x_iload_n dX6_answerHeld_13 rfl 3 rfl ?_
    refine x_icmp_ge 55 dX6_answerHeld_14 rfl (fun hc1 => ?_) (fun hc1 => ?_)
    · replace hw := hw.1 hc1
      refine x_iload_n dX6_answerHeld_55 rfl 3 rfl ?_
      exact x_iret dX6_answerHeld_56 rfl ⟨l3, rfl, hW, hw⟩
    · replace hw := hw.2 hc1
      refine x_aload_n dX6_answerHeld_17 rfl 1 rfl ?_
      obtain ⟨hk2, hw⟩ := hw
      obtain ⟨r3, hr4, hw⟩ := hw
      refine x_get (ci := 3) (k := 5) (v := .ref r3) dX6_answerHeld_18 wF_X6_97 (Nat.le_of_ble_eq_true rfl) (Nat.le_of_ble_eq_true rfl) hk2 (congrArg va_rf hr4) ?_
      obtain ⟨hk5, hw⟩ := hw
      refine x_callV (M2 := M_X0_take) (As := []) (st := []) (ci := 0) (Nat.le_of_ble_eq_true rfl) hk5 rfl wM_X6_320 wI_X0_take wS_X0_take dX6_answerHeld_21 rfl ok_X0_take ⟨(Nat.le_of_ble_eq_true rfl), (Nat.le_of_ble_eq_true rfl)⟩ (Nat.le_of_ble_eq_true rfl) (ct_X0_take hk5 hw) (xqR.k (fun x6 σ7 hw2 => ?_))
      obtain ⟨hW, hw⟩ := hw2
      refine x_astoreQ [(5, va_rf x6), (0, .ref a0), (1, .ref l1), (2, .int l2), (3, .int l3), (4, .int l4)] dX6_answerHeld_24 (Nat.le_of_ble_eq_true rfl) rfl ?_
      refine x_aloadQ dX6_answerHeld_26 0 rfl ?_
      refine x_ifnull 49 dX6_answerHeld_28 rfl (fun hn8 => ?_) (fun a9 hs10 => ?_)
      · replace hw := hw.1 hn8
        exact x_sub [1, 2, 3, 4, 5] rfl (xb_X6_answerHeld_49 hW ih hw)
      · replace hw := hw.2 a9 hs10
        refine x_lvS 0 (lv2 := [(5, .ref a9), (0, .ref a0), (1, .ref l1), (2, .int l2), (3, .int l3), (4, .int l4)]) rfl hs10 rfl ?_
        refine x_aload dX6_answerHeld_31 0 rfl ?_
        refine x_iconst dX6_answerHeld_33 cI_1 ?_
        refine x_iload_n dX6_answerHeld_34 rfl 3 rfl ?_
        obtain ⟨hk11, hw⟩ := hw
        refine x_callV (M2 := M_X1_answer) (As := [.int 1, .int l2]) (st := []) (ci := 1) (Nat.le_of_ble_eq_true rfl) hk11 rfl wM_X6_282 wI_X1_answer wS_X1_answer dX6_answerHeld_35 rfl ok_X1_answer ⟨(Nat.le_of_ble_eq_true rfl), (Nat.le_of_ble_eq_true rfl)⟩ (Nat.le_of_ble_eq_true rfl) (ct_X1_answer hk11 hw) (xqI.k (fun x12 σ13 hw2 => ?_))
        obtain ⟨hW, hw⟩ := hw2
        refine x_pop dX6_answerHeld_38 rfl ?_
        refine x_aload_n dX6_answerHeld_39 rfl 1 rfl ?_
        refine x_aload dX6_answerHeld_40 0 rfl ?_
        refine x_aload_n dX6_answerHeld_42 rfl 2 rfl ?_
        obtain ⟨hk14, hw⟩ := hw
        refine x_get (ci := 3) (k := 1) (v := .int (xh_I σ13 193 l1)) dX6_answerHeld_43 wF_X6_81 (Nat.le_of_ble_eq_true rfl) (Nat.le_of_ble_eq_true rfl) hk14 rfl ?_
        refine x_callV (M2 := M_X6_settle) (As := [.ref a9, .int (xh_I σ13 193 l1)]) (st := []) (ci := 6) (Nat.le_of_ble_eq_true rfl) hW.1 rfl wM_X6_310 wI_X6_settle wS_X6_settle dX6_answerHeld_46 rfl ok_X6_settle ⟨(Nat.le_of_ble_eq_true rfl), (Nat.le_of_ble_eq_true rfl)⟩ (Nat.le_of_ble_eq_true rfl) (ct_X6_settle hW hw) (xqV.k (fun σ15 hw2 => ?_))
        obtain ⟨hW, hw⟩ := hw2
        exact x_sub [1, 2, 3, 4, 5] rfl (xb_X6_answerHeld_49 hW ih hw)
def wp_X6_answerHeld (σ : xS) (a0 : Nat) (l1 : Nat) (l2 : Int32) (Q : Int32 → xS → Prop) : Prop := xh_k σ l1 = 4 ∧ ∃ r17, xh_R σ 197 l1 = some r17 ∧ (xh_k σ r17 = 1 ∧ (∃ m11, wb_X6_answerHeld_11 Q a0 m11 σ l1 l2 (xh_I σ 2 r17) 0))
set_option maxRecDepth 100000 in
set_option maxHeartbeats 4000000 in
theorem ct_X6_answerHeld {σ : xS} {a0 : Nat}  {l1 : Nat} {l2 : Int32} {Q : Int32 → xS → Prop} (hW : xw6 σ a0) (hw : wp_X6_answerHeld σ a0 l1 l2 Q) : xCt M_X6_answerHeld [.ref a0, .ref l1, .int l2] σ (xqI (fun r σ2 => xw6 σ2 a0 ∧ Q r σ2)) := by
  refine xCt_ofL (lv := [(0, .ref a0), (1, .ref l1), (2, .int l2)]) pn_X6 (Nat.le_of_ble_eq_true rfl) rfl ?_
  unfold wp_X6_answerHeld at hw
  refine x_aload_n dX6_answerHeld_0 rfl 1 rfl ?_
  obtain ⟨hk16, hw⟩ := hw
  obtain ⟨r17, hr18, hw⟩ := hw
  refine x_get (ci := 3) (k := 5) (v := .ref r17) dX6_answerHeld_1 wF_X6_97 (Nat.le_of_ble_eq_true rfl) (Nat.le_of_ble_eq_true rfl) hk16 (congrArg va_rf hr18) ?_
  obtain ⟨hk19, hw⟩ := hw
  refine x_get (ci := 0) (k := 2) (v := .int (xh_I σ 2 r17)) dX6_answerHeld_4 wF_X6_100 (Nat.le_of_ble_eq_true rfl) (Nat.le_of_ble_eq_true rfl) hk19 rfl ?_
  refine x_istore_n [(3, .int (xh_I σ 2 r17)), (0, .ref a0), (1, .ref l1), (2, .int l2)] dX6_answerHeld_7 rfl (Nat.le_of_ble_eq_true rfl) rfl ?_
  refine x_iconst dX6_answerHeld_8 cI_0 ?_
  refine x_istore [(4, .int 0), (3, .int (xh_I σ 2 r17)), (0, .ref a0), (1, .ref l1), (2, .int l2)] dX6_answerHeld_9 (Nat.le_of_ble_eq_true rfl) rfl ?_
  obtain ⟨m11, hw⟩ := hw
  exact x_sub [2, 3, 4, 1, 0] rfl (xl_X6_answerHeld_11 m11 _ _ _ _ _ hW hw)
-- PromiseWire.send(LPromiseWire$Message;I)V
def wb_X6_send_28 (Q : xS → Prop) (σ : xS) (a0 : Nat) : Prop := Q σ
set_option maxRecDepth 100000 in
set_option maxHeartbeats 4000000 in
theorem xb_X6_send_28 {Q : xS → Prop} {σ : xS} {a0 : Nat}  (hW : xw6 σ a0)  (hw : wb_X6_send_28 Q σ a0) : xX M_X6_send 28 [(0, .ref a0)] [] σ (xqV (fun σ2 => xw6 σ2 a0 ∧ Q σ2)) := by
  unfold wb_X6_send_28 at hw
  exact x_vret dX6_send_28 rfl ⟨rfl, hW, hw⟩
def wp_X6_send (σ : xS) (a0 : Nat) (l1 : Nat) (l2 : Int32) (Q : xS → Prop) : Prop := xh_k σ l1 = 2 ∧ ∀ σ2, σ2 = xs_I σ 74 l1 3 → (wp_X1_destination σ2 l1 (fun x3 => wp_X6_post σ2 a0 l1 l2 x3 (fun x5 σ6 => (x5 = 0 → xh_k σ6 l1 = 2 ∧ wp_X1_breakByCut σ6 l1 (fun σ9 => xw6 σ9 a0 ∧ (wp_X6_settle σ9 a0 l1 l2 (fun σ10 => wb_X6_send_28 Q σ10 a0)))) ∧ (¬ x5 = 0 → wb_X6_send_28 Q σ6 a0))))
set_option maxRecDepth 100000 in
set_option maxHeartbeats 4000000 in
theorem ct_X6_send {σ : xS} {a0 : Nat}  {l1 : Nat} {l2 : Int32} {Q : xS → Prop} (hW : xw6 σ a0) (hw : wp_X6_send σ a0 l1 l2 Q) : xCt M_X6_send [.ref a0, .ref l1, .int l2] σ (xqV (fun σ2 => xw6 σ2 a0 ∧ Q σ2)) := by
  refine xCt_ofL (lv := [(0, .ref a0), (1, .ref l1), (2, .int l2)]) pn_X6 (Nat.le_of_ble_eq_true rfl) rfl ?_
  unfold wp_X6_send at hw
  refine x_aload_n dX6_send_0 rfl 1 rfl ?_
  refine x_iconst dX6_send_1 cI_3 ?_
  obtain ⟨hk1, hw⟩ := hw
  refine x_putIN (ci := 1) (k := 10) (f := 74) dX6_send_2 wF_X6_173 (Nat.le_of_ble_eq_true rfl) (Nat.le_of_ble_eq_true rfl) hk1 (Or.inl rfl) rfl (Or.inl rfl) (fun σ2 hσ2 => ?_)
  replace hw := hw σ2 hσ2
  refine x_aload_n dX6_send_5 rfl 0 rfl ?_
  refine x_aload_n dX6_send_6 rfl 1 rfl ?_
  refine x_iload_n dX6_send_7 rfl 2 rfl ?_
  refine x_aload_n dX6_send_8 rfl 1 rfl ?_
  refine x_callV (M2 := M_X1_destination) (As := []) (st := [.int l2, .ref l1, .ref a0]) (ci := 1) (Nat.le_of_ble_eq_true rfl) (xk_I hσ2 hk1) rfl wM_X6_125 wI_X1_destination wS_X1_destination dX6_send_9 rfl ok_X1_destination ⟨(Nat.le_of_ble_eq_true rfl), (Nat.le_of_ble_eq_true rfl)⟩ (Nat.le_of_ble_eq_true rfl) (ct_X1_destination (xk_I hσ2 hk1) hw) (xqI.k (fun x3 τ4 hw2 => ?_))
  obtain ⟨he, hw⟩ := hw2
  subst he
  have hW := (xw6_I hσ2 hW)
  refine x_callV (M2 := M_X6_post) (As := [.ref l1, .int l2, .int x3]) (st := []) (ci := 6) (Nat.le_of_ble_eq_true rfl) hW.1 rfl wM_X6_324 wI_X6_post wS_X6_post dX6_send_12 rfl ok_X6_post ⟨(Nat.le_of_ble_eq_true rfl), (Nat.le_of_ble_eq_true rfl)⟩ (Nat.le_of_ble_eq_true rfl) (ct_X6_post hW hw) (xqI.k (fun x5 σ6 hw2 => ?_))
  obtain ⟨hW, hw⟩ := hw2
  refine x_if_ne 28 dX6_send_15 rfl (fun hc7 => ?_) (fun hc7 => ?_)
  · replace hw := hw.2 hc7
    exact x_sub [0] rfl (xb_X6_send_28 hW hw)
  · replace hw := hw.1 hc7
    refine x_aload_n dX6_send_18 rfl 1 rfl ?_
    obtain ⟨hk8, hw⟩ := hw
    refine x_callV (M2 := M_X1_breakByCut) (As := []) (st := []) (ci := 1) (Nat.le_of_ble_eq_true rfl) hk8 rfl wM_X6_328 wI_X1_breakByCut wS_X1_breakByCut dX6_send_19 rfl ok_X1_breakByCut ⟨(Nat.le_of_ble_eq_true rfl), (Nat.le_of_ble_eq_true rfl)⟩ (Nat.le_of_ble_eq_true rfl) (ct_X1_breakByCut hk8 hw) (xqV.k (fun σ9 hw2 => ?_))
    obtain ⟨hW, hw⟩ := hw2
    refine x_aload_n dX6_send_22 rfl 0 rfl ?_
    refine x_aload_n dX6_send_23 rfl 1 rfl ?_
    refine x_iload_n dX6_send_24 rfl 2 rfl ?_
    refine x_callV (M2 := M_X6_settle) (As := [.ref l1, .int l2]) (st := []) (ci := 6) (Nat.le_of_ble_eq_true rfl) hW.1 rfl wM_X6_310 wI_X6_settle wS_X6_settle dX6_send_25 rfl ok_X6_settle ⟨(Nat.le_of_ble_eq_true rfl), (Nat.le_of_ble_eq_true rfl)⟩ (Nat.le_of_ble_eq_true rfl) (ct_X6_settle hW hw) (xqV.k (fun σ10 hw2 => ?_))
    obtain ⟨hW, hw⟩ := hw2
    exact x_sub [0] rfl (xb_X6_send_28 hW hw)
-- PromiseWire.sendOn(LPromiseWire$Message;LPromiseWire$Promise;)V
def wb_X6_sendOn_78 (Q : xS → Prop) (σ : xS) (a0 : Nat) : Prop := Q σ
set_option maxRecDepth 100000 in
set_option maxHeartbeats 4000000 in
theorem xb_X6_sendOn_78 {Q : xS → Prop} {σ : xS} {a0 : Nat}  (hW : xw6 σ a0)  (hw : wb_X6_sendOn_78 Q σ a0) : xX M_X6_sendOn 78 [(0, .ref a0)] [] σ (xqV (fun σ2 => xw6 σ2 a0 ∧ Q σ2)) := by
  unfold wb_X6_sendOn_78 at hw
  exact x_vret dX6_sendOn_78 rfl ⟨rfl, hW, hw⟩
def wb_X6_sendOn_65 (Q : xS → Prop) (σ : xS) (a0 : Nat) (l1 : Nat) (l2 : Nat) (s0 : Nat) (s1 : Int32) (s2 : Int32) : Prop := xh_k σ s0 = 2 ∧ wp_X1_answer σ s0 s1 s2 (fun x2 σ3 => xw6 σ3 a0 ∧ (xh_k σ3 l2 = 3 ∧ (wp_X6_settle σ3 a0 l1 (xh_I σ3 130 l2) (fun σ5 => wb_X6_sendOn_78 Q σ5 a0))))
set_option maxRecDepth 100000 in
set_option maxHeartbeats 4000000 in
theorem xb_X6_sendOn_65 {Q : xS → Prop} {σ : xS} {a0 : Nat}  {l1 : Nat} {l2 : Nat} {s0 : Nat} {s1 : Int32} {s2 : Int32} (hW : xw6 σ a0)  (hw : wb_X6_sendOn_65 Q σ a0 l1 l2 s0 s1 s2) : xX M_X6_sendOn 65 [(0, .ref a0), (1, .ref l1), (2, .ref l2)] [.int s2, .int s1, .ref s0] σ (xqV (fun σ2 => xw6 σ2 a0 ∧ Q σ2)) := by
  unfold wb_X6_sendOn_65 at hw
  obtain ⟨hk1, hw⟩ := hw
  refine x_callV (M2 := M_X1_answer) (As := [.int s1, .int s2]) (st := []) (ci := 1) (Nat.le_of_ble_eq_true rfl) hk1 rfl wM_X6_282 wI_X1_answer wS_X1_answer dX6_sendOn_65 rfl ok_X1_answer ⟨(Nat.le_of_ble_eq_true rfl), (Nat.le_of_ble_eq_true rfl)⟩ (Nat.le_of_ble_eq_true rfl) (ct_X1_answer hk1 hw) (xqI.k (fun x2 σ3 hw2 => ?_))
  obtain ⟨hW, hw⟩ := hw2
  refine x_pop dX6_sendOn_68 rfl ?_
  refine x_aload_n dX6_sendOn_69 rfl 0 rfl ?_
  refine x_aload_n dX6_sendOn_70 rfl 1 rfl ?_
  refine x_aload_n dX6_sendOn_71 rfl 2 rfl ?_
  obtain ⟨hk4, hw⟩ := hw
  refine x_get (ci := 2) (k := 2) (v := .int (xh_I σ3 130 l2)) dX6_sendOn_72 wF_X6_160 (Nat.le_of_ble_eq_true rfl) (Nat.le_of_ble_eq_true rfl) hk4 rfl ?_
  refine x_callV (M2 := M_X6_settle) (As := [.ref l1, .int (xh_I σ3 130 l2)]) (st := []) (ci := 6) (Nat.le_of_ble_eq_true rfl) hW.1 rfl wM_X6_310 wI_X6_settle wS_X6_settle dX6_sendOn_75 rfl ok_X6_settle ⟨(Nat.le_of_ble_eq_true rfl), (Nat.le_of_ble_eq_true rfl)⟩ (Nat.le_of_ble_eq_true rfl) (ct_X6_settle hW hw) (xqV.k (fun σ5 hw2 => ?_))
  obtain ⟨hW, hw⟩ := hw2
  exact x_sub [0] rfl (xb_X6_sendOn_78 hW hw)
def wb_X6_sendOn_20 (Q : xS → Prop) (σ : xS) (a0 : Nat) (l1 : Nat) (l2 : Nat) (s0 : Option Nat) : Prop := (s0 = none → xh_k σ l2 = 3 ∧ (((xh_I σ 133 l2) = 3 → wb_X6_sendOn_65 Q σ a0 l1 l2 l1 3 (xh_I σ 134 l2)) ∧ (¬ (xh_I σ 133 l2) = 3 → wb_X6_sendOn_65 Q σ a0 l1 l2 l1 3 3))) ∧ (∀ a7, s0 = some a7 → xh_k σ l1 = 2 ∧ ∀ σ12, σ12 = xs_R σ 69 l1 none → (∀ σ13, σ13 = xs_R σ12 68 l1 (some a7) → (xh_k σ13 l2 = 3 ∧ (wp_X6_send σ13 a0 l1 (xh_I σ13 130 l2) (fun σ15 => wb_X6_sendOn_78 Q σ15 a0)))))
set_option maxRecDepth 100000 in
set_option maxHeartbeats 4000000 in
theorem xb_X6_sendOn_20 {Q : xS → Prop} {σ : xS} {a0 : Nat}  {l1 : Nat} {l2 : Nat} {s0 : Option Nat} (hW : xw6 σ a0)  (hw : wb_X6_sendOn_20 Q σ a0 l1 l2 s0) : xX M_X6_sendOn 20 [(0, .ref a0), (1, .ref l1), (2, .ref l2)] [va_rf s0] σ (xqV (fun σ2 => xw6 σ2 a0 ∧ Q σ2)) := by
  unfold wb_X6_sendOn_20 at hw
  refine x_astore_nQ [(3, va_rf s0), (0, .ref a0), (1, .ref l1), (2, .ref l2)] dX6_sendOn_20 rfl (Nat.le_of_ble_eq_true rfl) rfl ?_
  refine x_aload_nQ dX6_sendOn_21 rfl 0 rfl ?_
  refine x_ifnull 47 dX6_sendOn_22 rfl (fun hn6 => ?_) (fun a7 hs8 => ?_)
  · replace hw := hw.1 hn6
    refine x_aload_n dX6_sendOn_47 rfl 2 rfl ?_
    refine x_iconst dX6_sendOn_48 cI_3 ?_
    refine x_aload_n dX6_sendOn_49 rfl 3 rfl ?_
    obtain ⟨hk9, hw⟩ := hw
    refine x_get (ci := 2) (k := 5) (v := .int (xh_I σ 133 l2)) dX6_sendOn_50 wF_X6_335 (Nat.le_of_ble_eq_true rfl) (Nat.le_of_ble_eq_true rfl) hk9 rfl ?_
    refine x_iconst dX6_sendOn_53 cI_3 ?_
    refine x_icmp_ne 64 dX6_sendOn_54 rfl (fun hc10 => ?_) (fun hc10 => ?_)
    · replace hw := hw.2 hc10
      refine x_iconst dX6_sendOn_64 cI_3 ?_
      exact x_sub [1, 2, 3] rfl (xb_X6_sendOn_65 hW hw)
    · replace hw := hw.1 hc10
      refine x_aload_n dX6_sendOn_57 rfl 3 rfl ?_
      refine x_get (ci := 2) (k := 6) (v := .int (xh_I σ 134 l2)) dX6_sendOn_58 wF_X6_338 (Nat.le_of_ble_eq_true rfl) (Nat.le_of_ble_eq_true rfl) hk9 rfl ?_
      refine x_goto 65 dX6_sendOn_61 rfl ?_
      exact x_sub [1, 2, 3] rfl (xb_X6_sendOn_65 hW hw)
  · replace hw := hw.2 a7 hs8
    refine x_lvS 0 (lv2 := [(3, .ref a7), (0, .ref a0), (1, .ref l1), (2, .ref l2)]) rfl hs8 rfl ?_
    refine x_aload_n dX6_sendOn_25 rfl 2 rfl ?_
    refine x_null dX6_sendOn_26 ?_
    obtain ⟨hk11, hw⟩ := hw
    refine x_putRN (r := none) (ci := 1) (k := 5) (f := 69) dX6_sendOn_27 wF_X6_121 (Nat.le_of_ble_eq_true rfl) (Nat.le_of_ble_eq_true rfl) hk11 (Or.inl rfl) rfl rfl (fun σ12 hσ12 => ?_)
    replace hw := hw σ12 hσ12
    refine x_aload_n dX6_sendOn_30 rfl 2 rfl ?_
    refine x_aload_n dX6_sendOn_31 rfl 0 rfl ?_
    refine x_putRN (r := (some a7)) (ci := 1) (k := 4) (f := 68) dX6_sendOn_32 wF_X6_118 (Nat.le_of_ble_eq_true rfl) (Nat.le_of_ble_eq_true rfl) (xk_R hσ12 hk11) (Or.inl rfl) rfl rfl (fun σ13 hσ13 => ?_)
    replace hw := hw σ13 hσ13
    refine x_aload_n dX6_sendOn_35 rfl 1 rfl ?_
    refine x_aload_n dX6_sendOn_36 rfl 2 rfl ?_
    refine x_aload_n dX6_sendOn_37 rfl 3 rfl ?_
    obtain ⟨hk14, hw⟩ := hw
    refine x_get (ci := 2) (k := 2) (v := .int (xh_I σ13 130 l2)) dX6_sendOn_38 wF_X6_160 (Nat.le_of_ble_eq_true rfl) (Nat.le_of_ble_eq_true rfl) hk14 rfl ?_
    have hW := (xw6_R (by decide) hσ13 (xw6_R (by decide) hσ12 hW))
    refine x_callV (M2 := M_X6_send) (As := [.ref l1, .int (xh_I σ13 130 l2)]) (st := []) (ci := 6) (Nat.le_of_ble_eq_true rfl) hW.1 rfl wM_X6_135 wI_X6_send wS_X6_send dX6_sendOn_41 rfl ok_X6_send ⟨(Nat.le_of_ble_eq_true rfl), (Nat.le_of_ble_eq_true rfl)⟩ (Nat.le_of_ble_eq_true rfl) (ct_X6_send hW hw) (xqV.k (fun σ15 hw2 => ?_))
    obtain ⟨hW, hw⟩ := hw2
    refine x_goto 78 dX6_sendOn_44 rfl ?_
    exact x_sub [1] rfl (xb_X6_sendOn_78 hW hw)
def wp_X6_sendOn (σ : xS) (a0 : Nat) (l1 : Nat) (l2 : Nat) (Q : xS → Prop) : Prop := xh_k σ l2 = 3 ∧ (((xh_I σ 133 l2) = 2 → wp_X6_thingAt σ a0 (xh_I σ 134 l2) (fun x18 => wb_X6_sendOn_20 Q σ a0 l1 l2 x18)) ∧ (¬ (xh_I σ 133 l2) = 2 → wb_X6_sendOn_20 Q σ a0 l1 l2 none))
set_option maxRecDepth 100000 in
set_option maxHeartbeats 4000000 in
theorem ct_X6_sendOn {σ : xS} {a0 : Nat}  {l1 : Nat} {l2 : Nat} {Q : xS → Prop} (hW : xw6 σ a0) (hw : wp_X6_sendOn σ a0 l1 l2 Q) : xCt M_X6_sendOn [.ref a0, .ref l1, .ref l2] σ (xqV (fun σ2 => xw6 σ2 a0 ∧ Q σ2)) := by
  refine xCt_ofL (lv := [(0, .ref a0), (1, .ref l1), (2, .ref l2)]) pn_X6 (Nat.le_of_ble_eq_true rfl) rfl ?_
  unfold wp_X6_sendOn at hw
  refine x_aload_n dX6_sendOn_0 rfl 2 rfl ?_
  obtain ⟨hk16, hw⟩ := hw
  refine x_get (ci := 2) (k := 5) (v := .int (xh_I σ 133 l2)) dX6_sendOn_1 wF_X6_335 (Nat.le_of_ble_eq_true rfl) (Nat.le_of_ble_eq_true rfl) hk16 rfl ?_
  refine x_iconst dX6_sendOn_4 cI_2 ?_
  refine x_icmp_ne 19 dX6_sendOn_5 rfl (fun hc17 => ?_) (fun hc17 => ?_)
  · replace hw := hw.2 hc17
    refine x_null dX6_sendOn_19 ?_
    exact x_sub [0, 1, 2] rfl (xb_X6_sendOn_20 hW hw)
  · replace hw := hw.1 hc17
    refine x_aload_n dX6_sendOn_8 rfl 0 rfl ?_
    refine x_aload_n dX6_sendOn_9 rfl 2 rfl ?_
    refine x_get (ci := 2) (k := 6) (v := .int (xh_I σ 134 l2)) dX6_sendOn_10 wF_X6_338 (Nat.le_of_ble_eq_true rfl) (Nat.le_of_ble_eq_true rfl) hk16 rfl ?_
    refine x_callV (M2 := M_X6_thingAt) (As := [.int (xh_I σ 134 l2)]) (st := []) (ci := 6) (Nat.le_of_ble_eq_true rfl) hW.1 rfl wM_X6_55 wI_X6_thingAt wS_X6_thingAt dX6_sendOn_13 rfl ok_X6_thingAt ⟨(Nat.le_of_ble_eq_true rfl), (Nat.le_of_ble_eq_true rfl)⟩ (Nat.le_of_ble_eq_true rfl) (ct_X6_thingAt hW hw) (xqR.k (fun x18 τ19 hw2 => ?_))
    obtain ⟨he, hw⟩ := hw2
    subst he
    refine x_goto 20 dX6_sendOn_16 rfl ?_
    exact x_sub [0, 1, 2] rfl (xb_X6_sendOn_20 hW hw)
-- PromiseWire.postWhen(LPromiseWire$When;)V
def wb_X6_postWhen_48 (Q : xS → Prop) (σ : xS) (a0 : Nat) (l1 : Nat) (s0 : Nat) (s1 : Nat) (s2 : Int32) (s3 : Int32) : Prop := xh_k σ s1 = 2 ∧ wp_X1_init σ s1 s2 s3 none (fun σ2 => xw6 σ2 a0 ∧ (xh_k σ2 l1 = 5 ∧ ∃ r4, xh_R σ2 258 l1 = some r4 ∧ (xh_k σ2 s0 = 2 ∧ ∀ σ7, σ7 = xs_R σ2 68 s0 (some r4) → (wp_X6_post σ7 a0 s0 (xh_I σ7 257 l1) (xh_I σ7 257 l1) (fun x8 σ9 => Q σ9)))))
set_option maxRecDepth 100000 in
set_option maxHeartbeats 4000000 in
theorem xb_X6_postWhen_48 {Q : xS → Prop} {σ : xS} {a0 : Nat}  {l1 : Nat} {s0 : Nat} {s1 : Nat} {s2 : Int32} {s3 : Int32} (hW : xw6 σ a0)  (hw : wb_X6_postWhen_48 Q σ a0 l1 s0 s1 s2 s3) : xX M_X6_postWhen 48 [(0, .ref a0), (1, .ref l1)] [.int s3, .int s2, .ref s1, .ref s0] σ (xqV (fun σ2 => xw6 σ2 a0 ∧ Q σ2)) := by
  unfold wb_X6_postWhen_48 at hw
  refine x_null dX6_postWhen_48 ?_
  obtain ⟨hk1, hw⟩ := hw
  refine x_callI (M2 := M_X1_init) (As := [.int s2, .int s3, va_rf none]) (st := [.ref s0]) rfl rfl wM_X6_115 wI_X1_init dX6_postWhen_49 rfl ok_X1_init ⟨(Nat.le_of_ble_eq_true rfl), (Nat.le_of_ble_eq_true rfl)⟩ (Nat.le_of_ble_eq_true rfl) (ct_X1_init hk1 hw) (xqV.k (fun σ2 hw2 => ?_))
  obtain ⟨hW, hw⟩ := hw2
  refine x_astore [(4, .ref s0), (0, .ref a0), (1, .ref l1)] dX6_postWhen_52 (Nat.le_of_ble_eq_true rfl) rfl ?_
  refine x_aload dX6_postWhen_54 0 rfl ?_
  refine x_aload_n dX6_postWhen_56 rfl 2 rfl ?_
  obtain ⟨hk3, hw⟩ := hw
  obtain ⟨r4, hr5, hw⟩ := hw
  refine x_get (ci := 4) (k := 2) (v := .ref r4) dX6_postWhen_57 wF_X6_360 (Nat.le_of_ble_eq_true rfl) (Nat.le_of_ble_eq_true rfl) hk3 (congrArg va_rf hr5) ?_
  obtain ⟨hk6, hw⟩ := hw
  refine x_putRN (r := (some r4)) (ci := 1) (k := 4) (f := 68) dX6_postWhen_60 wF_X6_118 (Nat.le_of_ble_eq_true rfl) (Nat.le_of_ble_eq_true rfl) hk6 (Or.inl rfl) rfl rfl (fun σ7 hσ7 => ?_)
  replace hw := hw σ7 hσ7
  refine x_aload_n dX6_postWhen_63 rfl 1 rfl ?_
  refine x_aload dX6_postWhen_64 0 rfl ?_
  refine x_aload_n dX6_postWhen_66 rfl 2 rfl ?_
  refine x_get (ci := 4) (k := 1) (v := .int (xh_I σ7 257 l1)) dX6_postWhen_67 wF_X6_359 (Nat.le_of_ble_eq_true rfl) (Nat.le_of_ble_eq_true rfl) (xk_R hσ7 hk3) rfl ?_
  refine x_aload_n dX6_postWhen_70 rfl 2 rfl ?_
  refine x_get (ci := 4) (k := 1) (v := .int (xh_I σ7 257 l1)) dX6_postWhen_71 wF_X6_359 (Nat.le_of_ble_eq_true rfl) (Nat.le_of_ble_eq_true rfl) (xk_R hσ7 hk3) rfl ?_
  have hW := (xw6_R (by decide) hσ7 hW)
  refine x_callV (M2 := M_X6_post) (As := [.ref s0, .int (xh_I σ7 257 l1), .int (xh_I σ7 257 l1)]) (st := []) (ci := 6) (Nat.le_of_ble_eq_true rfl) hW.1 rfl wM_X6_324 wI_X6_post wS_X6_post dX6_postWhen_74 rfl ok_X6_post ⟨(Nat.le_of_ble_eq_true rfl), (Nat.le_of_ble_eq_true rfl)⟩ (Nat.le_of_ble_eq_true rfl) (ct_X6_post hW hw) (xqI.k (fun x8 σ9 hw2 => ?_))
  obtain ⟨hW, hw⟩ := hw2
  refine x_pop dX6_postWhen_77 rfl ?_
  exact x_vret dX6_postWhen_78 rfl ⟨rfl, hW, hw⟩
def wb_X6_postWhen_32 (Q : xS → Prop) (σ : xS) (a0 : Nat) (l1 : Nat) (l2 : Int32) (s0 : Int32) : Prop := xh_n σ < xh_m σ ∧ ∀ σ12, σ12 = xs_new σ 1 → ((s0 = 0 → wb_X6_postWhen_48 Q σ12 a0 l1 (xh_n σ) (xh_n σ) 2 l2) ∧ (¬ s0 = 0 → wb_X6_postWhen_48 Q σ12 a0 l1 (xh_n σ) (xh_n σ) 2 (-l2)))
set_option maxRecDepth 100000 in
set_option maxHeartbeats 4000000 in
theorem xb_X6_postWhen_32 {Q : xS → Prop} {σ : xS} {a0 : Nat}  {l1 : Nat} {l2 : Int32} {s0 : Int32} (hW : xw6 σ a0)  (hw : wb_X6_postWhen_32 Q σ a0 l1 l2 s0) : xX M_X6_postWhen 32 [(0, .ref a0), (1, .ref l1), (2, .int l2)] [.int s0] σ (xqV (fun σ2 => xw6 σ2 a0 ∧ Q σ2)) := by
  unfold wb_X6_postWhen_32 at hw
  refine x_istore_n [(3, .int s0), (0, .ref a0), (1, .ref l1), (2, .int l2)] dX6_postWhen_32 rfl (Nat.le_of_ble_eq_true rfl) rfl ?_
  refine x_fresh (fun hf10 => ?_)
  obtain ⟨hm11, hw⟩ := hw
  refine x_newN (ci := 1) dX6_postWhen_33 (Nat.le_of_ble_eq_true rfl) wK_X6_113 wT_X1 wN_X1 hm11 (fun σ12 hσ12 => ?_)
  replace hw := hw σ12 hσ12
  refine x_dup dX6_postWhen_36 rfl ?_
  refine x_iconst dX6_postWhen_37 cI_2 ?_
  refine x_iload_n dX6_postWhen_38 rfl 0 rfl ?_
  refine x_if_eq 47 dX6_postWhen_39 rfl (fun hc13 => ?_) (fun hc13 => ?_)
  · replace hw := hw.1 hc13
    refine x_iload_n dX6_postWhen_47 rfl 3 rfl ?_
    have hW := (xw6_new hf10 hσ12 hW)
    exact x_sub [1, 2] rfl (xb_X6_postWhen_48 hW hw)
  · replace hw := hw.2 hc13
    refine x_iload_n dX6_postWhen_42 rfl 3 rfl ?_
    refine x_ineg dX6_postWhen_43 ?_
    refine x_goto 48 dX6_postWhen_44 rfl ?_
    have hW := (xw6_new hf10 hσ12 hW)
    exact x_sub [1, 2] rfl (xb_X6_postWhen_48 hW hw)
def wp_X6_postWhen (σ : xS) (a0 : Nat) (l1 : Nat) (Q : xS → Prop) : Prop := xh_k σ l1 = 5 ∧ ∃ r15, xh_R σ 256 l1 = some r15 ∧ (xh_k σ r15 = 3 ∧ wp_X2_valueIn σ r15 (xh_I σ 257 l1) (fun x18 => wp_X2_howIn σ r15 (xh_I σ 257 l1) (fun x20 => (x20 = 3 → wb_X6_postWhen_32 Q σ a0 l1 x18 1) ∧ (¬ x20 = 3 → wb_X6_postWhen_32 Q σ a0 l1 x18 0))))
set_option maxRecDepth 100000 in
set_option maxHeartbeats 4000000 in
theorem ct_X6_postWhen {σ : xS} {a0 : Nat}  {l1 : Nat} {Q : xS → Prop} (hW : xw6 σ a0) (hw : wp_X6_postWhen σ a0 l1 Q) : xCt M_X6_postWhen [.ref a0, .ref l1] σ (xqV (fun σ2 => xw6 σ2 a0 ∧ Q σ2)) := by
  refine xCt_ofL (lv := [(0, .ref a0), (1, .ref l1)]) pn_X6 (Nat.le_of_ble_eq_true rfl) rfl ?_
  unfold wp_X6_postWhen at hw
  refine x_aload_n dX6_postWhen_0 rfl 1 rfl ?_
  obtain ⟨hk14, hw⟩ := hw
  obtain ⟨r15, hr16, hw⟩ := hw
  refine x_get (ci := 4) (k := 0) (v := .ref r15) dX6_postWhen_1 wF_X6_358 (Nat.le_of_ble_eq_true rfl) (Nat.le_of_ble_eq_true rfl) hk14 (congrArg va_rf hr16) ?_
  refine x_aload_n dX6_postWhen_4 rfl 1 rfl ?_
  refine x_get (ci := 4) (k := 1) (v := .int (xh_I σ 257 l1)) dX6_postWhen_5 wF_X6_359 (Nat.le_of_ble_eq_true rfl) (Nat.le_of_ble_eq_true rfl) hk14 rfl ?_
  obtain ⟨hk17, hw⟩ := hw
  refine x_callV (M2 := M_X2_valueIn) (As := [.int (xh_I σ 257 l1)]) (st := []) (ci := 2) (Nat.le_of_ble_eq_true rfl) hk17 rfl wM_X6_154 wI_X2_valueIn wS_X2_valueIn dX6_postWhen_8 rfl ok_X2_valueIn ⟨(Nat.le_of_ble_eq_true rfl), (Nat.le_of_ble_eq_true rfl)⟩ (Nat.le_of_ble_eq_true rfl) (ct_X2_valueIn hk17 hw) (xqI.k (fun x18 τ19 hw2 => ?_))
  obtain ⟨he, hw⟩ := hw2
  subst he
  refine x_istore_n [(2, .int x18), (0, .ref a0), (1, .ref l1)] dX6_postWhen_11 rfl (Nat.le_of_ble_eq_true rfl) rfl ?_
  refine x_aload_n dX6_postWhen_12 rfl 2 rfl ?_
  refine x_get (ci := 4) (k := 0) (v := .ref r15) dX6_postWhen_13 wF_X6_358 (Nat.le_of_ble_eq_true rfl) (Nat.le_of_ble_eq_true rfl) hk14 (congrArg va_rf hr16) ?_
  refine x_aload_n dX6_postWhen_16 rfl 2 rfl ?_
  refine x_get (ci := 4) (k := 1) (v := .int (xh_I σ 257 l1)) dX6_postWhen_17 wF_X6_359 (Nat.le_of_ble_eq_true rfl) (Nat.le_of_ble_eq_true rfl) hk14 rfl ?_
  refine x_callV (M2 := M_X2_howIn) (As := [.int (xh_I σ 257 l1)]) (st := []) (ci := 2) (Nat.le_of_ble_eq_true rfl) hk17 rfl wM_X6_146 wI_X2_howIn wS_X2_howIn dX6_postWhen_20 rfl ok_X2_howIn ⟨(Nat.le_of_ble_eq_true rfl), (Nat.le_of_ble_eq_true rfl)⟩ (Nat.le_of_ble_eq_true rfl) (ct_X2_howIn hk17 hw) (xqI.k (fun x20 τ21 hw2 => ?_))
  obtain ⟨he, hw⟩ := hw2
  subst he
  refine x_iconst dX6_postWhen_23 cI_3 ?_
  refine x_icmp_ne 31 dX6_postWhen_24 rfl (fun hc22 => ?_) (fun hc22 => ?_)
  · replace hw := hw.2 hc22
    refine x_iconst dX6_postWhen_31 cI_0 ?_
    exact x_sub [1, 2, 0] rfl (xb_X6_postWhen_32 hW hw)
  · replace hw := hw.1 hc22
    refine x_iconst dX6_postWhen_27 cI_1 ?_
    refine x_goto 32 dX6_postWhen_28 rfl ?_
    exact x_sub [1, 2, 0] rfl (xb_X6_postWhen_32 hW hw)
-- PromiseWire.postWhens(LPromiseWire$Promise;I)V
def wb_X6_postWhens_62 (Q : xS → Prop) (σ : xS) (a0 : Nat) : Prop := Q σ
set_option maxRecDepth 100000 in
set_option maxHeartbeats 4000000 in
theorem xb_X6_postWhens_62 {Q : xS → Prop} {σ : xS} {a0 : Nat}  (hW : xw6 σ a0)  (hw : wb_X6_postWhens_62 Q σ a0) : xX M_X6_postWhens 62 [(0, .ref a0)] [] σ (xqV (fun σ2 => xw6 σ2 a0 ∧ Q σ2)) := by
  unfold wb_X6_postWhens_62 at hw
  exact x_vret dX6_postWhens_62 rfl ⟨rfl, hW, hw⟩
def wb_X6_postWhens_56 (Q : xS → Prop) (K2 : xS → Nat → Int32 → Int32 → Prop) (σ : xS) (a0 : Nat) (l1 : Nat) (l2 : Int32) (l3 : Int32) : Prop := K2 σ l1 l2 (l3 + 1)
set_option maxRecDepth 100000 in
set_option maxHeartbeats 4000000 in
theorem xb_X6_postWhens_56 {Q : xS → Prop} {K2 : xS → Nat → Int32 → Int32 → Prop} {σ : xS} {a0 : Nat}  {l1 : Nat} {l2 : Int32} {l3 : Int32} (hW : xw6 σ a0)  (hK2 : ∀ (σ : xS) (l1 : Nat) (l2 : Int32) (l3 : Int32), xw6 σ a0 → K2 σ l1 l2 l3 → xX M_X6_postWhens 2 [(0, .ref a0), (1, .ref l1), (2, .int l2), (3, .int l3)] [] σ (xqV (fun σ2 => xw6 σ2 a0 ∧ Q σ2))) (hw : wb_X6_postWhens_56 Q K2 σ a0 l1 l2 l3) : xX M_X6_postWhens 56 [(0, .ref a0), (1, .ref l1), (2, .int l2), (3, .int l3)] [] σ (xqV (fun σ2 => xw6 σ2 a0 ∧ Q σ2)) := by
  unfold wb_X6_postWhens_56 at hw
  refine x_iinc [(3, .int (l3 + 1)), (0, .ref a0), (1, .ref l1), (2, .int l2)] dX6_postWhens_56 3 rfl (congrArg _ cI_1) (Nat.le_of_ble_eq_true rfl) rfl ?_
  refine x_goto 2 dX6_postWhens_59 rfl ?_
  exact x_sub [1, 2, 3, 0] rfl (hK2 _ _ _ _ hW hw)
def wb_X6_postWhens_2 (Q : xS → Prop) (a0 : Nat) : Nat → xS → Nat → Int32 → Int32 → Prop
  | 0, _, _, _, _ => False
  | n + 1, σ, l1, l2, l3 => ((xh_I σ 391 a0) ≤ l3 → wb_X6_postWhens_62 Q σ a0) ∧ (¬ (xh_I σ 391 a0) ≤ l3 → ((40 : Int32) ≤ l3 → wb_X6_postWhens_62 Q σ a0) ∧ (¬ (40 : Int32) ≤ l3 → vp_in l3 40 ∧ ((xh_q σ (a0 + 3) l3.toNatClampNeg = none → wb_X6_postWhens_56 Q (fun σ l1 l2 l3 => wb_X6_postWhens_2 Q a0 n σ l1 l2 l3) σ a0 l1 l2 l3) ∧ (∀ a5, xh_q σ (a0 + 3) l3.toNatClampNeg = some a5 → xh_k σ a5 = 5 ∧ ∃ r8, xh_R σ 256 a5 = some r8 ∧ (((some r8) = (some l1) → ((xh_I σ 257 a5) = l2 → wp_X6_postWhen σ a0 a5 (fun σ12 => wb_X6_postWhens_56 Q (fun σ l1 l2 l3 => wb_X6_postWhens_2 Q a0 n σ l1 l2 l3) σ12 a0 l1 l2 l3)) ∧ (¬ (xh_I σ 257 a5) = l2 → wb_X6_postWhens_56 Q (fun σ l1 l2 l3 => wb_X6_postWhens_2 Q a0 n σ l1 l2 l3) σ a0 l1 l2 l3)) ∧ (¬ (some r8) = (some l1) → wb_X6_postWhens_56 Q (fun σ l1 l2 l3 => wb_X6_postWhens_2 Q a0 n σ l1 l2 l3) σ a0 l1 l2 l3))))))
set_option maxRecDepth 100000 in
set_option maxHeartbeats 4000000 in
theorem xl_X6_postWhens_2 {Q : xS → Prop} {a0 : Nat}  : ∀ (n : Nat) (σ : xS) (l1 : Nat) (l2 : Int32) (l3 : Int32), xw6 σ a0 → wb_X6_postWhens_2 Q a0 n σ l1 l2 l3 → xX M_X6_postWhens 2 [(0, .ref a0), (1, .ref l1), (2, .int l2), (3, .int l3)] [] σ (xqV (fun σ2 => xw6 σ2 a0 ∧ Q σ2)) := by
  intro n
  induction n with
  | zero => intro σ l1 l2 l3 hW hw; exact False.elim hw
  | succ n ih =>
    intro σ l1 l2 l3 hW hw
    unfold wb_X6_postWhens_2 at hw
    refine x_iload_n dX6_postWhens_2 rfl 3 rfl ?_
    refine x_aload_n dX6_postWhens_3 rfl 0 rfl ?_
    refine x_get (ci := 6) (k := 7) (v := .int (xh_I σ 391 a0)) dX6_postWhens_4 wF_X6_140 (Nat.le_of_ble_eq_true rfl) (Nat.le_of_ble_eq_true rfl) hW.1 rfl ?_
    refine x_icmp_ge 62 dX6_postWhens_7 rfl (fun hc1 => ?_) (fun hc1 => ?_)
    · replace hw := hw.1 hc1
      exact x_sub [0] rfl (xb_X6_postWhens_62 hW hw)
    · replace hw := hw.2 hc1
      refine x_iload_n dX6_postWhens_10 rfl 3 rfl ?_
      refine x_aload_n dX6_postWhens_11 rfl 0 rfl ?_
      refine x_get (ci := 6) (k := 2) (v := .ref (a0 + 3)) dX6_postWhens_12 wF_X6_23 (Nat.le_of_ble_eq_true rfl) (Nat.le_of_ble_eq_true rfl) hW.1 (congrArg va_rf (w6r_3 hW)) ?_
      refine x_alenZ (t := 4) (v := 40) dX6_postWhens_15 (w6k_3 hW) (Nat.le_of_ble_eq_true rfl) (w6z_3 hW) rfl ?_
      refine x_icmp_ge 62 dX6_postWhens_16 rfl (fun hc2 => ?_) (fun hc2 => ?_)
      · replace hw := hw.1 hc2
        exact x_sub [0] rfl (xb_X6_postWhens_62 hW hw)
      · replace hw := hw.2 hc2
        refine x_aload_n dX6_postWhens_19 rfl 0 rfl ?_
        refine x_get (ci := 6) (k := 2) (v := .ref (a0 + 3)) dX6_postWhens_20 wF_X6_23 (Nat.le_of_ble_eq_true rfl) (Nat.le_of_ble_eq_true rfl) hW.1 (congrArg va_rf (w6r_3 hW)) ?_
        refine x_iload_n dX6_postWhens_23 rfl 3 rfl ?_
        obtain ⟨hv3, hw⟩ := hw
        refine x_aaldZ (t := 2) dX6_postWhens_24 (w6k_3 hW) (Nat.le_of_ble_eq_true rfl) (w6z_3 hW) hv3 ?_
        refine x_astoreQ [(4, va_rf (xh_q σ (a0 + 3) l3.toNatClampNeg)), (0, .ref a0), (1, .ref l1), (2, .int l2), (3, .int l3)] dX6_postWhens_25 (Nat.le_of_ble_eq_true rfl) rfl ?_
        refine x_aloadQ dX6_postWhens_27 0 rfl ?_
        refine x_ifnull 56 dX6_postWhens_29 rfl (fun hn4 => ?_) (fun a5 hs6 => ?_)
        · replace hw := hw.1 hn4
          exact x_sub [1, 2, 3, 4] rfl (xb_X6_postWhens_56 hW ih hw)
        · replace hw := hw.2 a5 hs6
          refine x_lvS 0 (lv2 := [(4, .ref a5), (0, .ref a0), (1, .ref l1), (2, .int l2), (3, .int l3)]) rfl hs6 rfl ?_
          refine x_aload dX6_postWhens_32 0 rfl ?_
          obtain ⟨hk7, hw⟩ := hw
          obtain ⟨r8, hr9, hw⟩ := hw
          refine x_get (ci := 4) (k := 0) (v := .ref r8) dX6_postWhens_34 wF_X6_358 (Nat.le_of_ble_eq_true rfl) (Nat.le_of_ble_eq_true rfl) hk7 (congrArg va_rf hr9) ?_
          refine x_aload_n dX6_postWhens_37 rfl 2 rfl ?_
          refine x_acmp_ne (rx := (some r8)) (ry := (some l1)) 56 dX6_postWhens_38 rfl (fun hc10 => ?_) (fun hc10 => ?_)
          · replace hw := hw.2 hc10
            exact x_sub [1, 2, 3, 4] rfl (xb_X6_postWhens_56 hW ih hw)
          · replace hw := hw.1 hc10
            refine x_aload dX6_postWhens_41 0 rfl ?_
            refine x_get (ci := 4) (k := 1) (v := .int (xh_I σ 257 a5)) dX6_postWhens_43 wF_X6_359 (Nat.le_of_ble_eq_true rfl) (Nat.le_of_ble_eq_true rfl) hk7 rfl ?_
            refine x_iload_n dX6_postWhens_46 rfl 3 rfl ?_
            refine x_icmp_ne 56 dX6_postWhens_47 rfl (fun hc11 => ?_) (fun hc11 => ?_)
            · replace hw := hw.2 hc11
              exact x_sub [1, 2, 3, 4] rfl (xb_X6_postWhens_56 hW ih hw)
            · replace hw := hw.1 hc11
              refine x_aload_n dX6_postWhens_50 rfl 1 rfl ?_
              refine x_aload dX6_postWhens_51 0 rfl ?_
              refine x_callV (M2 := M_X6_postWhen) (As := [.ref a5]) (st := []) (ci := 6) (Nat.le_of_ble_eq_true rfl) hW.1 rfl wM_X6_150 wI_X6_postWhen wS_X6_postWhen dX6_postWhens_53 rfl ok_X6_postWhen ⟨(Nat.le_of_ble_eq_true rfl), (Nat.le_of_ble_eq_true rfl)⟩ (Nat.le_of_ble_eq_true rfl) (ct_X6_postWhen hW hw) (xqV.k (fun σ12 hw2 => ?_))
              obtain ⟨hW, hw⟩ := hw2
              exact x_sub [1, 2, 3, 4] rfl (xb_X6_postWhens_56 hW ih hw)
def wp_X6_postWhens (σ : xS) (a0 : Nat) (l1 : Nat) (l2 : Int32) (Q : xS → Prop) : Prop := ∃ m2, wb_X6_postWhens_2 Q a0 m2 σ l1 l2 0
set_option maxRecDepth 100000 in
set_option maxHeartbeats 4000000 in
theorem ct_X6_postWhens {σ : xS} {a0 : Nat}  {l1 : Nat} {l2 : Int32} {Q : xS → Prop} (hW : xw6 σ a0) (hw : wp_X6_postWhens σ a0 l1 l2 Q) : xCt M_X6_postWhens [.ref a0, .ref l1, .int l2] σ (xqV (fun σ2 => xw6 σ2 a0 ∧ Q σ2)) := by
  refine xCt_ofL (lv := [(0, .ref a0), (1, .ref l1), (2, .int l2)]) pn_X6 (Nat.le_of_ble_eq_true rfl) rfl ?_
  unfold wp_X6_postWhens at hw
  refine x_iconst dX6_postWhens_0 cI_0 ?_
  refine x_istore_n [(3, .int 0), (0, .ref a0), (1, .ref l1), (2, .int l2)] dX6_postWhens_1 rfl (Nat.le_of_ble_eq_true rfl) rfl ?_
  obtain ⟨m2, hw⟩ := hw
  exact x_sub [1, 2, 3, 0] rfl (xl_X6_postWhens_2 m2 _ _ _ _ hW hw)
-- PromiseWire.tellAsker(LPromiseWire$Promise;LPromiseWire$Message;)V
def wp_X6_tellAsker (σ : xS) (a0 : Nat) (l1 : Nat) (l2 : Nat) (Q : xS → Prop) : Prop := xh_k σ l2 = 2 ∧ (xh_k σ l1 = 3 ∧ ∀ σ3, σ3 = xs_I σ 135 l1 (xh_I σ 72 l2) → (∀ σ4, σ4 = xs_I σ3 136 l1 (xh_I σ3 73 l2) → (wp_X6_postWhens σ4 a0 l1 (xh_I σ4 129 l1) (fun σ5 => Q σ5))))
set_option maxRecDepth 100000 in
set_option maxHeartbeats 4000000 in
theorem ct_X6_tellAsker {σ : xS} {a0 : Nat}  {l1 : Nat} {l2 : Nat} {Q : xS → Prop} (hW : xw6 σ a0) (hw : wp_X6_tellAsker σ a0 l1 l2 Q) : xCt M_X6_tellAsker [.ref a0, .ref l1, .ref l2] σ (xqV (fun σ2 => xw6 σ2 a0 ∧ Q σ2)) := by
  refine xCt_ofL (lv := [(0, .ref a0), (1, .ref l1), (2, .ref l2)]) pn_X6 (Nat.le_of_ble_eq_true rfl) rfl ?_
  unfold wp_X6_tellAsker at hw
  refine x_aload_n dX6_tellAsker_0 rfl 1 rfl ?_
  refine x_aload_n dX6_tellAsker_1 rfl 2 rfl ?_
  obtain ⟨hk1, hw⟩ := hw
  refine x_get (ci := 1) (k := 8) (v := .int (xh_I σ 72 l2)) dX6_tellAsker_2 wF_X6_216 (Nat.le_of_ble_eq_true rfl) (Nat.le_of_ble_eq_true rfl) hk1 rfl ?_
  obtain ⟨hk2, hw⟩ := hw
  refine x_putIN (ci := 2) (k := 7) (f := 135) dX6_tellAsker_5 wF_X6_352 (Nat.le_of_ble_eq_true rfl) (Nat.le_of_ble_eq_true rfl) hk2 (Or.inl rfl) rfl (Or.inl rfl) (fun σ3 hσ3 => ?_)
  replace hw := hw σ3 hσ3
  refine x_aload_n dX6_tellAsker_8 rfl 1 rfl ?_
  refine x_aload_n dX6_tellAsker_9 rfl 2 rfl ?_
  refine x_get (ci := 1) (k := 9) (v := .int (xh_I σ3 73 l2)) dX6_tellAsker_10 wF_X6_222 (Nat.le_of_ble_eq_true rfl) (Nat.le_of_ble_eq_true rfl) (xk_I hσ3 hk1) rfl ?_
  refine x_putIN (ci := 2) (k := 8) (f := 136) dX6_tellAsker_13 wF_X6_355 (Nat.le_of_ble_eq_true rfl) (Nat.le_of_ble_eq_true rfl) (xk_I hσ3 hk2) (Or.inl rfl) rfl (Or.inl rfl) (fun σ4 hσ4 => ?_)
  replace hw := hw σ4 hσ4
  refine x_aload_n dX6_tellAsker_16 rfl 0 rfl ?_
  refine x_aload_n dX6_tellAsker_17 rfl 1 rfl ?_
  refine x_aload_n dX6_tellAsker_18 rfl 1 rfl ?_
  refine x_get (ci := 2) (k := 1) (v := .int (xh_I σ4 129 l1)) dX6_tellAsker_19 wF_X6_157 (Nat.le_of_ble_eq_true rfl) (Nat.le_of_ble_eq_true rfl) (xk_I hσ4 (xk_I hσ3 hk2)) rfl ?_
  have hW := (xw6_I hσ4 (xw6_I hσ3 hW))
  refine x_callV (M2 := M_X6_postWhens) (As := [.ref l1, .int (xh_I σ4 129 l1)]) (st := []) (ci := 6) (Nat.le_of_ble_eq_true rfl) hW.1 rfl wM_X6_348 wI_X6_postWhens wS_X6_postWhens dX6_tellAsker_22 rfl ok_X6_postWhens ⟨(Nat.le_of_ble_eq_true rfl), (Nat.le_of_ble_eq_true rfl)⟩ (Nat.le_of_ble_eq_true rfl) (ct_X6_postWhens hW hw) (xqV.k (fun σ5 hw2 => ?_))
  obtain ⟨hW, hw⟩ := hw2
  exact x_vret dX6_tellAsker_25 rfl ⟨rfl, hW, hw⟩
-- PromiseWire.fulfil(LPromiseWire$Promise;LPromiseWire$Message;)V
def wb_X6_fulfil_97 (Q : xS → Prop) (σ : xS) (a0 : Nat) (l1 : Nat) : Prop := xh_k σ l1 = 3 ∧ (wp_X6_postWhens σ a0 l1 (xh_I σ 130 l1) (fun σ2 => Q σ2))
set_option maxRecDepth 100000 in
set_option maxHeartbeats 4000000 in
theorem xb_X6_fulfil_97 {Q : xS → Prop} {σ : xS} {a0 : Nat}  {l1 : Nat} (hW : xw6 σ a0)  (hw : wb_X6_fulfil_97 Q σ a0 l1) : xX M_X6_fulfil 97 [(0, .ref a0), (1, .ref l1)] [] σ (xqV (fun σ2 => xw6 σ2 a0 ∧ Q σ2)) := by
  unfold wb_X6_fulfil_97 at hw
  refine x_aload_n dX6_fulfil_97 rfl 0 rfl ?_
  refine x_aload_n dX6_fulfil_98 rfl 1 rfl ?_
  refine x_aload_n dX6_fulfil_99 rfl 1 rfl ?_
  obtain ⟨hk1, hw⟩ := hw
  refine x_get (ci := 2) (k := 2) (v := .int (xh_I σ 130 l1)) dX6_fulfil_100 wF_X6_160 (Nat.le_of_ble_eq_true rfl) (Nat.le_of_ble_eq_true rfl) hk1 rfl ?_
  refine x_callV (M2 := M_X6_postWhens) (As := [.ref l1, .int (xh_I σ 130 l1)]) (st := []) (ci := 6) (Nat.le_of_ble_eq_true rfl) hW.1 rfl wM_X6_348 wI_X6_postWhens wS_X6_postWhens dX6_fulfil_103 rfl ok_X6_postWhens ⟨(Nat.le_of_ble_eq_true rfl), (Nat.le_of_ble_eq_true rfl)⟩ (Nat.le_of_ble_eq_true rfl) (ct_X6_postWhens hW hw) (xqV.k (fun σ2 hw2 => ?_))
  obtain ⟨hW, hw⟩ := hw2
  exact x_vret dX6_fulfil_106 rfl ⟨rfl, hW, hw⟩
def wb_X6_fulfil_54 (Q : xS → Prop) (K27 : xS → Nat → Nat → Int32 → Int32 → Prop) (σ : xS) (a0 : Nat) (l1 : Nat) (l2 : Nat) (l3 : Int32) (l4 : Int32) : Prop := K27 σ l1 l2 l3 (l4 + 1)
set_option maxRecDepth 100000 in
set_option maxHeartbeats 4000000 in
theorem xb_X6_fulfil_54 {Q : xS → Prop} {K27 : xS → Nat → Nat → Int32 → Int32 → Prop} {σ : xS} {a0 : Nat}  {l1 : Nat} {l2 : Nat} {l3 : Int32} {l4 : Int32} (hW : xw6 σ a0)  (hK27 : ∀ (σ : xS) (l1 : Nat) (l2 : Nat) (l3 : Int32) (l4 : Int32), xw6 σ a0 → K27 σ l1 l2 l3 l4 → xX M_X6_fulfil 27 [(0, .ref a0), (1, .ref l1), (2, .ref l2), (3, .int l3), (4, .int l4)] [] σ (xqV (fun σ2 => xw6 σ2 a0 ∧ Q σ2))) (hw : wb_X6_fulfil_54 Q K27 σ a0 l1 l2 l3 l4) : xX M_X6_fulfil 54 [(0, .ref a0), (1, .ref l1), (2, .ref l2), (3, .int l3), (4, .int l4)] [] σ (xqV (fun σ2 => xw6 σ2 a0 ∧ Q σ2)) := by
  unfold wb_X6_fulfil_54 at hw
  refine x_iinc [(4, .int (l4 + 1)), (0, .ref a0), (1, .ref l1), (2, .ref l2), (3, .int l3)] dX6_fulfil_54 4 rfl (congrArg _ cI_1) (Nat.le_of_ble_eq_true rfl) rfl ?_
  refine x_goto 27 dX6_fulfil_57 rfl ?_
  exact x_sub [1, 2, 3, 4, 0] rfl (hK27 _ _ _ _ _ hW hw)
def wb_X6_fulfil_27 (Q : xS → Prop) (a0 : Nat) : Nat → xS → Nat → Nat → Int32 → Int32 → Prop
  | 0, _, _, _, _, _ => False
  | n + 1, σ, l1, l2, l3, l4 => (l3 ≤ l4 → xh_k σ l1 = 3 ∧ (((xh_I σ 129 l1) = (xh_I σ 130 l1) → wb_X6_fulfil_97 Q σ a0 l1) ∧ (¬ (xh_I σ 129 l1) = (xh_I σ 130 l1) → wp_X6_post σ a0 l2 (xh_I σ 130 l1) (xh_I σ 129 l1) (fun x6 σ7 => (x6 = 0 → xh_k σ7 l2 = 2 ∧ wp_X1_breakByCut σ7 l2 (fun σ10 => xw6 σ10 a0 ∧ (wp_X6_tellAsker σ10 a0 l1 l2 (fun σ11 => wb_X6_fulfil_97 Q σ11 a0 l1)))) ∧ (¬ x6 = 0 → wb_X6_fulfil_97 Q σ7 a0 l1))))) ∧ (¬ l3 ≤ l4 → xh_k σ l1 = 3 ∧ ∃ r13, xh_R σ 132 l1 = some r13 ∧ (xh_k σ r13 = 1 ∧ wp_X0_take σ r13 (fun x16 σ17 => xw6 σ17 a0 ∧ ((x16 = none → wb_X6_fulfil_54 Q (fun σ l1 l2 l3 l4 => wb_X6_fulfil_27 Q a0 n σ l1 l2 l3 l4) σ17 a0 l1 l2 l3 l4) ∧ (∀ a19, x16 = some a19 → wp_X6_sendOn σ17 a0 a19 l1 (fun σ21 => wb_X6_fulfil_54 Q (fun σ l1 l2 l3 l4 => wb_X6_fulfil_27 Q a0 n σ l1 l2 l3 l4) σ21 a0 l1 l2 l3 l4))))))
set_option maxRecDepth 100000 in
set_option maxHeartbeats 4000000 in
theorem xl_X6_fulfil_27 {Q : xS → Prop} {a0 : Nat}  : ∀ (n : Nat) (σ : xS) (l1 : Nat) (l2 : Nat) (l3 : Int32) (l4 : Int32), xw6 σ a0 → wb_X6_fulfil_27 Q a0 n σ l1 l2 l3 l4 → xX M_X6_fulfil 27 [(0, .ref a0), (1, .ref l1), (2, .ref l2), (3, .int l3), (4, .int l4)] [] σ (xqV (fun σ2 => xw6 σ2 a0 ∧ Q σ2)) := by
  intro n
  induction n with
  | zero => intro σ l1 l2 l3 l4 hW hw; exact False.elim hw
  | succ n ih =>
    intro σ l1 l2 l3 l4 hW hw
    unfold wb_X6_fulfil_27 at hw
    refine x_iload dX6_fulfil_27 4 rfl ?_
    refine x_iload_n dX6_fulfil_29 rfl 3 rfl ?_
    refine x_icmp_ge 60 dX6_fulfil_30 rfl (fun hc3 => ?_) (fun hc3 => ?_)
    · replace hw := hw.1 hc3
      refine x_aload_n dX6_fulfil_60 rfl 1 rfl ?_
      obtain ⟨hk4, hw⟩ := hw
      refine x_get (ci := 2) (k := 1) (v := .int (xh_I σ 129 l1)) dX6_fulfil_61 wF_X6_157 (Nat.le_of_ble_eq_true rfl) (Nat.le_of_ble_eq_true rfl) hk4 rfl ?_
      refine x_aload_n dX6_fulfil_64 rfl 1 rfl ?_
      refine x_get (ci := 2) (k := 2) (v := .int (xh_I σ 130 l1)) dX6_fulfil_65 wF_X6_160 (Nat.le_of_ble_eq_true rfl) (Nat.le_of_ble_eq_true rfl) hk4 rfl ?_
      refine x_icmp_eq 97 dX6_fulfil_68 rfl (fun hc5 => ?_) (fun hc5 => ?_)
      · replace hw := hw.1 hc5
        exact x_sub [0, 1] rfl (xb_X6_fulfil_97 hW hw)
      · replace hw := hw.2 hc5
        refine x_aload_n dX6_fulfil_71 rfl 0 rfl ?_
        refine x_aload_n dX6_fulfil_72 rfl 2 rfl ?_
        refine x_aload_n dX6_fulfil_73 rfl 1 rfl ?_
        refine x_get (ci := 2) (k := 2) (v := .int (xh_I σ 130 l1)) dX6_fulfil_74 wF_X6_160 (Nat.le_of_ble_eq_true rfl) (Nat.le_of_ble_eq_true rfl) hk4 rfl ?_
        refine x_aload_n dX6_fulfil_77 rfl 1 rfl ?_
        refine x_get (ci := 2) (k := 1) (v := .int (xh_I σ 129 l1)) dX6_fulfil_78 wF_X6_157 (Nat.le_of_ble_eq_true rfl) (Nat.le_of_ble_eq_true rfl) hk4 rfl ?_
        refine x_callV (M2 := M_X6_post) (As := [.ref l2, .int (xh_I σ 130 l1), .int (xh_I σ 129 l1)]) (st := []) (ci := 6) (Nat.le_of_ble_eq_true rfl) hW.1 rfl wM_X6_324 wI_X6_post wS_X6_post dX6_fulfil_81 rfl ok_X6_post ⟨(Nat.le_of_ble_eq_true rfl), (Nat.le_of_ble_eq_true rfl)⟩ (Nat.le_of_ble_eq_true rfl) (ct_X6_post hW hw) (xqI.k (fun x6 σ7 hw2 => ?_))
        obtain ⟨hW, hw⟩ := hw2
        refine x_if_ne 97 dX6_fulfil_84 rfl (fun hc8 => ?_) (fun hc8 => ?_)
        · replace hw := hw.2 hc8
          exact x_sub [0, 1] rfl (xb_X6_fulfil_97 hW hw)
        · replace hw := hw.1 hc8
          refine x_aload_n dX6_fulfil_87 rfl 2 rfl ?_
          obtain ⟨hk9, hw⟩ := hw
          refine x_callV (M2 := M_X1_breakByCut) (As := []) (st := []) (ci := 1) (Nat.le_of_ble_eq_true rfl) hk9 rfl wM_X6_328 wI_X1_breakByCut wS_X1_breakByCut dX6_fulfil_88 rfl ok_X1_breakByCut ⟨(Nat.le_of_ble_eq_true rfl), (Nat.le_of_ble_eq_true rfl)⟩ (Nat.le_of_ble_eq_true rfl) (ct_X1_breakByCut hk9 hw) (xqV.k (fun σ10 hw2 => ?_))
          obtain ⟨hW, hw⟩ := hw2
          refine x_aload_n dX6_fulfil_91 rfl 0 rfl ?_
          refine x_aload_n dX6_fulfil_92 rfl 1 rfl ?_
          refine x_aload_n dX6_fulfil_93 rfl 2 rfl ?_
          refine x_callV (M2 := M_X6_tellAsker) (As := [.ref l1, .ref l2]) (st := []) (ci := 6) (Nat.le_of_ble_eq_true rfl) hW.1 rfl wM_X6_345 wI_X6_tellAsker wS_X6_tellAsker dX6_fulfil_94 rfl ok_X6_tellAsker ⟨(Nat.le_of_ble_eq_true rfl), (Nat.le_of_ble_eq_true rfl)⟩ (Nat.le_of_ble_eq_true rfl) (ct_X6_tellAsker hW hw) (xqV.k (fun σ11 hw2 => ?_))
          obtain ⟨hW, hw⟩ := hw2
          exact x_sub [0, 1] rfl (xb_X6_fulfil_97 hW hw)
    · replace hw := hw.2 hc3
      refine x_aload_n dX6_fulfil_33 rfl 1 rfl ?_
      obtain ⟨hk12, hw⟩ := hw
      obtain ⟨r13, hr14, hw⟩ := hw
      refine x_get (ci := 2) (k := 4) (v := .ref r13) dX6_fulfil_34 wF_X6_163 (Nat.le_of_ble_eq_true rfl) (Nat.le_of_ble_eq_true rfl) hk12 (congrArg va_rf hr14) ?_
      obtain ⟨hk15, hw⟩ := hw
      refine x_callV (M2 := M_X0_take) (As := []) (st := []) (ci := 0) (Nat.le_of_ble_eq_true rfl) hk15 rfl wM_X6_320 wI_X0_take wS_X0_take dX6_fulfil_37 rfl ok_X0_take ⟨(Nat.le_of_ble_eq_true rfl), (Nat.le_of_ble_eq_true rfl)⟩ (Nat.le_of_ble_eq_true rfl) (ct_X0_take hk15 hw) (xqR.k (fun x16 σ17 hw2 => ?_))
      obtain ⟨hW, hw⟩ := hw2
      refine x_astoreQ [(5, va_rf x16), (0, .ref a0), (1, .ref l1), (2, .ref l2), (3, .int l3), (4, .int l4)] dX6_fulfil_40 (Nat.le_of_ble_eq_true rfl) rfl ?_
      refine x_aloadQ dX6_fulfil_42 0 rfl ?_
      refine x_ifnull 54 dX6_fulfil_44 rfl (fun hn18 => ?_) (fun a19 hs20 => ?_)
      · replace hw := hw.1 hn18
        exact x_sub [1, 2, 3, 4, 5] rfl (xb_X6_fulfil_54 hW ih hw)
      · replace hw := hw.2 a19 hs20
        refine x_lvS 0 (lv2 := [(5, .ref a19), (0, .ref a0), (1, .ref l1), (2, .ref l2), (3, .int l3), (4, .int l4)]) rfl hs20 rfl ?_
        refine x_aload_n dX6_fulfil_47 rfl 1 rfl ?_
        refine x_aload dX6_fulfil_48 0 rfl ?_
        refine x_aload_n dX6_fulfil_50 rfl 2 rfl ?_
        refine x_callV (M2 := M_X6_sendOn) (As := [.ref a19, .ref l1]) (st := []) (ci := 6) (Nat.le_of_ble_eq_true rfl) hW.1 rfl wM_X6_341 wI_X6_sendOn wS_X6_sendOn dX6_fulfil_51 rfl ok_X6_sendOn ⟨(Nat.le_of_ble_eq_true rfl), (Nat.le_of_ble_eq_true rfl)⟩ (Nat.le_of_ble_eq_true rfl) (ct_X6_sendOn hW hw) (xqV.k (fun σ21 hw2 => ?_))
        obtain ⟨hW, hw⟩ := hw2
        exact x_sub [1, 2, 3, 4, 5] rfl (xb_X6_fulfil_54 hW ih hw)
def wp_X6_fulfil (σ : xS) (a0 : Nat) (l1 : Nat) (l2 : Nat) (Q : xS → Prop) : Prop := xh_k σ l2 = 2 ∧ (xh_k σ l1 = 3 ∧ ∀ σ24, σ24 = xs_I σ 133 l1 (xh_I σ 72 l2) → (∀ σ25, σ25 = xs_I σ24 134 l1 (xh_I σ24 73 l2) → (∃ r26, xh_R σ25 132 l1 = some r26 ∧ (xh_k σ25 r26 = 1 ∧ (∃ m27, wb_X6_fulfil_27 Q a0 m27 σ25 l1 l2 (xh_I σ25 2 r26) 0)))))
set_option maxRecDepth 100000 in
set_option maxHeartbeats 4000000 in
theorem ct_X6_fulfil {σ : xS} {a0 : Nat}  {l1 : Nat} {l2 : Nat} {Q : xS → Prop} (hW : xw6 σ a0) (hw : wp_X6_fulfil σ a0 l1 l2 Q) : xCt M_X6_fulfil [.ref a0, .ref l1, .ref l2] σ (xqV (fun σ2 => xw6 σ2 a0 ∧ Q σ2)) := by
  refine xCt_ofL (lv := [(0, .ref a0), (1, .ref l1), (2, .ref l2)]) pn_X6 (Nat.le_of_ble_eq_true rfl) rfl ?_
  unfold wp_X6_fulfil at hw
  refine x_aload_n dX6_fulfil_0 rfl 1 rfl ?_
  refine x_aload_n dX6_fulfil_1 rfl 2 rfl ?_
  obtain ⟨hk22, hw⟩ := hw
  refine x_get (ci := 1) (k := 8) (v := .int (xh_I σ 72 l2)) dX6_fulfil_2 wF_X6_216 (Nat.le_of_ble_eq_true rfl) (Nat.le_of_ble_eq_true rfl) hk22 rfl ?_
  obtain ⟨hk23, hw⟩ := hw
  refine x_putIN (ci := 2) (k := 5) (f := 133) dX6_fulfil_5 wF_X6_335 (Nat.le_of_ble_eq_true rfl) (Nat.le_of_ble_eq_true rfl) hk23 (Or.inl rfl) rfl (Or.inl rfl) (fun σ24 hσ24 => ?_)
  replace hw := hw σ24 hσ24
  refine x_aload_n dX6_fulfil_8 rfl 1 rfl ?_
  refine x_aload_n dX6_fulfil_9 rfl 2 rfl ?_
  refine x_get (ci := 1) (k := 9) (v := .int (xh_I σ24 73 l2)) dX6_fulfil_10 wF_X6_222 (Nat.le_of_ble_eq_true rfl) (Nat.le_of_ble_eq_true rfl) (xk_I hσ24 hk22) rfl ?_
  refine x_putIN (ci := 2) (k := 6) (f := 134) dX6_fulfil_13 wF_X6_338 (Nat.le_of_ble_eq_true rfl) (Nat.le_of_ble_eq_true rfl) (xk_I hσ24 hk23) (Or.inl rfl) rfl (Or.inl rfl) (fun σ25 hσ25 => ?_)
  replace hw := hw σ25 hσ25
  refine x_aload_n dX6_fulfil_16 rfl 1 rfl ?_
  obtain ⟨r26, hr27, hw⟩ := hw
  refine x_get (ci := 2) (k := 4) (v := .ref r26) dX6_fulfil_17 wF_X6_163 (Nat.le_of_ble_eq_true rfl) (Nat.le_of_ble_eq_true rfl) (xk_I hσ25 (xk_I hσ24 hk23)) (congrArg va_rf hr27) ?_
  obtain ⟨hk28, hw⟩ := hw
  refine x_get (ci := 0) (k := 2) (v := .int (xh_I σ25 2 r26)) dX6_fulfil_20 wF_X6_100 (Nat.le_of_ble_eq_true rfl) (Nat.le_of_ble_eq_true rfl) hk28 rfl ?_
  refine x_istore_n [(3, .int (xh_I σ25 2 r26)), (0, .ref a0), (1, .ref l1), (2, .ref l2)] dX6_fulfil_23 rfl (Nat.le_of_ble_eq_true rfl) rfl ?_
  refine x_iconst dX6_fulfil_24 cI_0 ?_
  refine x_istore [(4, .int 0), (3, .int (xh_I σ25 2 r26)), (0, .ref a0), (1, .ref l1), (2, .ref l2)] dX6_fulfil_25 (Nat.le_of_ble_eq_true rfl) rfl ?_
  have hW := (xw6_I hσ25 (xw6_I hσ24 hW))
  obtain ⟨m27, hw⟩ := hw
  exact x_sub [2, 3, 4, 1, 0] rfl (xl_X6_fulfil_27 m27 _ _ _ _ _ hW hw)
-- PromiseWire.doAll()V
def wb_X6_doAll_53 (Q : xS → Prop) (σ : xS) (a0 : Nat) : Prop := Q σ
set_option maxRecDepth 100000 in
set_option maxHeartbeats 4000000 in
theorem xb_X6_doAll_53 {Q : xS → Prop} {σ : xS} {a0 : Nat}  (hW : xw6 σ a0)  (hw : wb_X6_doAll_53 Q σ a0) : xX M_X6_doAll 53 [(0, .ref a0)] [] σ (xqV (fun σ2 => xw6 σ2 a0 ∧ Q σ2)) := by
  unfold wb_X6_doAll_53 at hw
  exact x_vret dX6_doAll_53 rfl ⟨rfl, hW, hw⟩
def wb_X6_doAll_47 (Q : xS → Prop) (K2 : xS → Int32 → Prop) (σ : xS) (a0 : Nat) (l1 : Int32) : Prop := K2 σ (l1 + 1)
set_option maxRecDepth 100000 in
set_option maxHeartbeats 4000000 in
theorem xb_X6_doAll_47 {Q : xS → Prop} {K2 : xS → Int32 → Prop} {σ : xS} {a0 : Nat}  {l1 : Int32} (hW : xw6 σ a0)  (hK2 : ∀ (σ : xS) (l1 : Int32), xw6 σ a0 → K2 σ l1 → xX M_X6_doAll 2 [(0, .ref a0), (1, .int l1)] [] σ (xqV (fun σ2 => xw6 σ2 a0 ∧ Q σ2))) (hw : wb_X6_doAll_47 Q K2 σ a0 l1) : xX M_X6_doAll 47 [(0, .ref a0), (1, .int l1)] [] σ (xqV (fun σ2 => xw6 σ2 a0 ∧ Q σ2)) := by
  unfold wb_X6_doAll_47 at hw
  refine x_iinc [(1, .int (l1 + 1)), (0, .ref a0)] dX6_doAll_47 1 rfl (congrArg _ cI_1) (Nat.le_of_ble_eq_true rfl) rfl ?_
  refine x_goto 2 dX6_doAll_50 rfl ?_
  exact x_sub [1, 0] rfl (hK2 _ _ hW hw)
def wb_X6_doAll_2 (Q : xS → Prop) (a0 : Nat) : Nat → xS → Int32 → Prop
  | 0, _, _ => False
  | n + 1, σ, l1 => ((1000 : Int32) ≤ l1 → wb_X6_doAll_53 Q σ a0) ∧ (¬ (1000 : Int32) ≤ l1 → ((xh_I σ 2 (a0 + 5)) ≤ 0 → wb_X6_doAll_53 Q σ a0) ∧ (¬ (xh_I σ 2 (a0 + 5)) ≤ 0 → wp_X0_take σ (a0 + 5) (fun x3 σ4 => xw6 σ4 a0 ∧ ((x3 = none → wb_X6_doAll_47 Q (fun σ l1 => wb_X6_doAll_2 Q a0 n σ l1) σ4 a0 l1) ∧ (∀ a6, x3 = some a6 → xh_k σ4 a6 = 2 ∧ ((xh_R σ4 64 a6 = none → wb_X6_doAll_47 Q (fun σ l1 => wb_X6_doAll_2 Q a0 n σ l1) σ4 a0 l1) ∧ (∀ a10, xh_R σ4 64 a6 = some a10 → wp_X6_fulfil σ4 a0 a10 a6 (fun σ12 => wb_X6_doAll_47 Q (fun σ l1 => wb_X6_doAll_2 Q a0 n σ l1) σ12 a0 l1))))))))
set_option maxRecDepth 100000 in
set_option maxHeartbeats 4000000 in
theorem xl_X6_doAll_2 {Q : xS → Prop} {a0 : Nat}  : ∀ (n : Nat) (σ : xS) (l1 : Int32), xw6 σ a0 → wb_X6_doAll_2 Q a0 n σ l1 → xX M_X6_doAll 2 [(0, .ref a0), (1, .int l1)] [] σ (xqV (fun σ2 => xw6 σ2 a0 ∧ Q σ2)) := by
  intro n
  induction n with
  | zero => intro σ l1 hW hw; exact False.elim hw
  | succ n ih =>
    intro σ l1 hW hw
    unfold wb_X6_doAll_2 at hw
    refine x_iload_n dX6_doAll_2 rfl 1 rfl ?_
    refine x_sipush dX6_doAll_3 cS_1000 ?_
    refine x_icmp_ge 53 dX6_doAll_6 rfl (fun hc1 => ?_) (fun hc1 => ?_)
    · replace hw := hw.1 hc1
      exact x_sub [0] rfl (xb_X6_doAll_53 hW hw)
    · replace hw := hw.2 hc1
      refine x_aload_n dX6_doAll_9 rfl 0 rfl ?_
      refine x_get (ci := 6) (k := 4) (v := .ref (a0 + 5)) dX6_doAll_10 wF_X6_36 (Nat.le_of_ble_eq_true rfl) (Nat.le_of_ble_eq_true rfl) hW.1 (congrArg va_rf (w6r_5 hW)) ?_
      refine x_get (ci := 0) (k := 2) (v := .int (xh_I σ 2 (a0 + 5))) dX6_doAll_13 wF_X6_100 (Nat.le_of_ble_eq_true rfl) (Nat.le_of_ble_eq_true rfl) (w6k_5 hW) rfl ?_
      refine x_if_le 53 dX6_doAll_16 rfl (fun hc2 => ?_) (fun hc2 => ?_)
      · replace hw := hw.1 hc2
        exact x_sub [0] rfl (xb_X6_doAll_53 hW hw)
      · replace hw := hw.2 hc2
        refine x_aload_n dX6_doAll_19 rfl 0 rfl ?_
        refine x_get (ci := 6) (k := 4) (v := .ref (a0 + 5)) dX6_doAll_20 wF_X6_36 (Nat.le_of_ble_eq_true rfl) (Nat.le_of_ble_eq_true rfl) hW.1 (congrArg va_rf (w6r_5 hW)) ?_
        refine x_callV (M2 := M_X0_take) (As := []) (st := []) (ci := 0) (Nat.le_of_ble_eq_true rfl) (w6k_5 hW) rfl wM_X6_320 wI_X0_take wS_X0_take dX6_doAll_23 rfl ok_X0_take ⟨(Nat.le_of_ble_eq_true rfl), (Nat.le_of_ble_eq_true rfl)⟩ (Nat.le_of_ble_eq_true rfl) (ct_X0_take (w6k_5 hW) hw) (xqR.k (fun x3 σ4 hw2 => ?_))
        obtain ⟨hW, hw⟩ := hw2
        refine x_astore_nQ [(2, va_rf x3), (0, .ref a0), (1, .int l1)] dX6_doAll_26 rfl (Nat.le_of_ble_eq_true rfl) rfl ?_
        refine x_aload_nQ dX6_doAll_27 rfl 0 rfl ?_
        refine x_ifnull 47 dX6_doAll_28 rfl (fun hn5 => ?_) (fun a6 hs7 => ?_)
        · replace hw := hw.1 hn5
          exact x_sub [1, 2] rfl (xb_X6_doAll_47 hW ih hw)
        · replace hw := hw.2 a6 hs7
          refine x_lvS 0 (lv2 := [(2, .ref a6), (0, .ref a0), (1, .int l1)]) rfl hs7 rfl ?_
          refine x_aload_n dX6_doAll_31 rfl 0 rfl ?_
          obtain ⟨hk8, hw⟩ := hw
          refine x_get (ci := 1) (k := 0) (v := va_rf (xh_R σ4 64 a6)) dX6_doAll_32 wF_X6_132 (Nat.le_of_ble_eq_true rfl) (Nat.le_of_ble_eq_true rfl) hk8 rfl ?_
          refine x_ifnull 47 dX6_doAll_35 rfl (fun hn9 => ?_) (fun a10 hs11 => ?_)
          · replace hw := hw.1 hn9
            exact x_sub [1, 2] rfl (xb_X6_doAll_47 hW ih hw)
          · replace hw := hw.2 a10 hs11
            refine x_aload_n dX6_doAll_38 rfl 1 rfl ?_
            refine x_aload_n dX6_doAll_39 rfl 0 rfl ?_
            refine x_get (ci := 1) (k := 0) (v := .ref a10) dX6_doAll_40 wF_X6_132 (Nat.le_of_ble_eq_true rfl) (Nat.le_of_ble_eq_true rfl) hk8 (congrArg va_rf hs11) ?_
            refine x_aload_n dX6_doAll_43 rfl 0 rfl ?_
            refine x_callV (M2 := M_X6_fulfil) (As := [.ref a10, .ref a6]) (st := []) (ci := 6) (Nat.le_of_ble_eq_true rfl) hW.1 rfl wM_X6_331 wI_X6_fulfil wS_X6_fulfil dX6_doAll_44 rfl ok_X6_fulfil ⟨(Nat.le_of_ble_eq_true rfl), (Nat.le_of_ble_eq_true rfl)⟩ (Nat.le_of_ble_eq_true rfl) (ct_X6_fulfil hW hw) (xqV.k (fun σ12 hw2 => ?_))
            obtain ⟨hW, hw⟩ := hw2
            exact x_sub [1, 2] rfl (xb_X6_doAll_47 hW ih hw)
def wp_X6_doAll (σ : xS) (a0 : Nat) (Q : xS → Prop) : Prop := ∃ m2, wb_X6_doAll_2 Q a0 m2 σ 0
set_option maxRecDepth 100000 in
set_option maxHeartbeats 4000000 in
theorem ct_X6_doAll {σ : xS} {a0 : Nat}  {Q : xS → Prop} (hW : xw6 σ a0) (hw : wp_X6_doAll σ a0 Q) : xCt M_X6_doAll [.ref a0] σ (xqV (fun σ2 => xw6 σ2 a0 ∧ Q σ2)) := by
  refine xCt_ofL (lv := [(0, .ref a0)]) pn_X6 (Nat.le_of_ble_eq_true rfl) rfl ?_
  unfold wp_X6_doAll at hw
  refine x_iconst dX6_doAll_0 cI_0 ?_
  refine x_istore_n [(1, .int 0), (0, .ref a0)] dX6_doAll_1 rfl (Nat.le_of_ble_eq_true rfl) rfl ?_
  obtain ⟨m2, hw⟩ := hw
  exact x_sub [1, 0] rfl (xl_X6_doAll_2 m2 _ _ hW hw)
-- PromiseWire.wake(II)I
def wb_X6_wake_19 (Q : Int32 → xS → Prop) (σ : xS) (a0 : Nat) : Prop := Q (-1) σ
set_option maxRecDepth 100000 in
set_option maxHeartbeats 4000000 in
theorem xb_X6_wake_19 {Q : Int32 → xS → Prop} {σ : xS} {a0 : Nat}  (hW : xw6 σ a0)  (hw : wb_X6_wake_19 Q σ a0) : xX M_X6_wake 19 [(0, .ref a0)] [] σ (xqI (fun r σ2 => xw6 σ2 a0 ∧ Q r σ2)) := by
  unfold wb_X6_wake_19 at hw
  refine x_iconst dX6_wake_19 cI_m1 ?_
  exact x_iret dX6_wake_20 rfl ⟨(-1), rfl, hW, hw⟩
def wp_X6_wake (σ : xS) (a0 : Nat) (l1 : Int32) (l2 : Int32) (Q : Int32 → xS → Prop) : Prop := wp_X6_thingAt σ a0 l1 (fun x1 => (x1 = none → wb_X6_wake_19 Q σ a0) ∧ (∀ a4, x1 = some a4 → xh_k σ a4 = 4 ∧ (((xh_I σ 194 a4) = 6 → wp_X6_answerHeld σ a0 a4 l2 (fun x8 σ9 => wp_X6_doAll σ9 a0 (fun σ10 => Q x8 σ10))) ∧ (¬ (xh_I σ 194 a4) = 6 → wb_X6_wake_19 Q σ a0))))
set_option maxRecDepth 100000 in
set_option maxHeartbeats 4000000 in
theorem ct_X6_wake {σ : xS} {a0 : Nat}  {l1 : Int32} {l2 : Int32} {Q : Int32 → xS → Prop} (hW : xw6 σ a0) (hw : wp_X6_wake σ a0 l1 l2 Q) : xCt M_X6_wake [.ref a0, .int l1, .int l2] σ (xqI (fun r σ2 => xw6 σ2 a0 ∧ Q r σ2)) := by
  refine xCt_ofL (lv := [(0, .ref a0), (1, .int l1), (2, .int l2)]) pn_X6 (Nat.le_of_ble_eq_true rfl) rfl ?_
  unfold wp_X6_wake at hw
  refine x_aload_n dX6_wake_0 rfl 0 rfl ?_
  refine x_iload_n dX6_wake_1 rfl 1 rfl ?_
  refine x_callV (M2 := M_X6_thingAt) (As := [.int l1]) (st := []) (ci := 6) (Nat.le_of_ble_eq_true rfl) hW.1 rfl wM_X6_55 wI_X6_thingAt wS_X6_thingAt dX6_wake_2 rfl ok_X6_thingAt ⟨(Nat.le_of_ble_eq_true rfl), (Nat.le_of_ble_eq_true rfl)⟩ (Nat.le_of_ble_eq_true rfl) (ct_X6_thingAt hW hw) (xqR.k (fun x1 τ2 hw2 => ?_))
  obtain ⟨he, hw⟩ := hw2
  subst he
  refine x_astore_nQ [(3, va_rf x1), (0, .ref a0), (1, .int l1), (2, .int l2)] dX6_wake_5 rfl (Nat.le_of_ble_eq_true rfl) rfl ?_
  refine x_aload_nQ dX6_wake_6 rfl 0 rfl ?_
  refine x_ifnull 19 dX6_wake_7 rfl (fun hn3 => ?_) (fun a4 hs5 => ?_)
  · replace hw := hw.1 hn3
    exact x_sub [1] rfl (xb_X6_wake_19 hW hw)
  · replace hw := hw.2 a4 hs5
    refine x_lvS 0 (lv2 := [(3, .ref a4), (0, .ref a0), (1, .int l1), (2, .int l2)]) rfl hs5 rfl ?_
    refine x_aload_n dX6_wake_10 rfl 0 rfl ?_
    obtain ⟨hk6, hw⟩ := hw
    refine x_get (ci := 3) (k := 2) (v := .int (xh_I σ 194 a4)) dX6_wake_11 wF_X6_59 (Nat.le_of_ble_eq_true rfl) (Nat.le_of_ble_eq_true rfl) hk6 rfl ?_
    refine x_bipush dX6_wake_14 cB_6 ?_
    refine x_icmp_eq 21 dX6_wake_16 rfl (fun hc7 => ?_) (fun hc7 => ?_)
    · replace hw := hw.1 hc7
      refine x_aload_n dX6_wake_21 rfl 1 rfl ?_
      refine x_aload_n dX6_wake_22 rfl 0 rfl ?_
      refine x_iload_n dX6_wake_23 rfl 3 rfl ?_
      refine x_callV (M2 := M_X6_answerHeld) (As := [.ref a4, .int l2]) (st := []) (ci := 6) (Nat.le_of_ble_eq_true rfl) hW.1 rfl wM_X6_74 wI_X6_answerHeld wS_X6_answerHeld dX6_wake_24 rfl ok_X6_answerHeld ⟨(Nat.le_of_ble_eq_true rfl), (Nat.le_of_ble_eq_true rfl)⟩ (Nat.le_of_ble_eq_true rfl) (ct_X6_answerHeld hW hw) (xqI.k (fun x8 σ9 hw2 => ?_))
      obtain ⟨hW, hw⟩ := hw2
      refine x_istore [(4, .int x8), (3, .ref a4), (0, .ref a0), (1, .int l1), (2, .int l2)] dX6_wake_27 (Nat.le_of_ble_eq_true rfl) rfl ?_
      refine x_aload_n dX6_wake_29 rfl 2 rfl ?_
      refine x_callV (M2 := M_X6_doAll) (As := []) (st := []) (ci := 6) (Nat.le_of_ble_eq_true rfl) hW.1 rfl wM_X6_78 wI_X6_doAll wS_X6_doAll dX6_wake_30 rfl ok_X6_doAll ⟨(Nat.le_of_ble_eq_true rfl), (Nat.le_of_ble_eq_true rfl)⟩ (Nat.le_of_ble_eq_true rfl) (ct_X6_doAll hW hw) (xqV.k (fun σ10 hw2 => ?_))
      obtain ⟨hW, hw⟩ := hw2
      refine x_iload dX6_wake_33 0 rfl ?_
      exact x_iret dX6_wake_35 rfl ⟨x8, rfl, hW, hw⟩
    · replace hw := hw.2 hc7
      exact x_sub [1] rfl (xb_X6_wake_19 hW hw)
-- PromiseWire.about(II)I
def wb_X6_about_94 (Q : Int32 → Prop) (σ : xS) (a0 : Nat) (s0 : Int32) : Prop := Q s0
set_option maxRecDepth 100000 in
set_option maxHeartbeats 4000000 in
theorem xb_X6_about_94 {Q : Int32 → Prop} {σ : xS} {a0 : Nat}  {s0 : Int32} (hW : xw6 σ a0)  (hw : wb_X6_about_94 Q σ a0 s0) : xX M_X6_about 94 [(0, .ref a0)] [.int s0] σ (xqI (fun r σ2 => σ = σ2 ∧ Q r )) := by
  unfold wb_X6_about_94 at hw
  exact x_iret dX6_about_94 rfl ⟨s0, rfl, rfl, hw⟩
def wp_X6_about (σ : xS) (a0 : Nat) (l1 : Int32) (l2 : Int32) (Q : Int32 → Prop) : Prop := wp_X6_thingAt σ a0 l1 (fun x1 => (x1 = none → Q (-1)) ∧ (∀ a4, x1 = some a4 → (l2 = 0 → xh_k σ a4 = 4 ∧ (Q (xh_I σ 193 a4))) ∧ (¬ l2 = 0 → (l2 = 1 → xh_k σ a4 = 4 ∧ (Q (xh_I σ 194 a4))) ∧ (¬ l2 = 1 → (l2 = 2 → xh_k σ a4 = 4 ∧ (Q (xh_I σ 198 a4))) ∧ (¬ l2 = 2 → (l2 = 3 → xh_k σ a4 = 4 ∧ ((xh_R σ 195 a4 = none → wb_X6_about_94 Q σ a0 (-9)) ∧ (∀ a15, xh_R σ 195 a4 = some a15 → xh_k σ a15 = 4 ∧ (wb_X6_about_94 Q σ a0 (xh_I σ 192 a15))))) ∧ (¬ l2 = 3 → (l2 = 4 → xh_k σ a4 = 4 ∧ (Q (xh_I σ 196 a4))) ∧ (¬ l2 = 4 → (l2 = 5 → xh_k σ a4 = 4 ∧ (wp_X6_oneIf σ (xh_I σ 199 a4) (fun x22 => Q x22))) ∧ (¬ l2 = 5 → (l2 = 6 → xh_k σ a4 = 4 ∧ (wp_X6_oneIf σ (xh_I σ 200 a4) (fun x26 => Q x26))) ∧ (¬ l2 = 6 → (l2 = 7 → xh_k σ a4 = 4 ∧ ∃ r30, xh_R σ 197 a4 = some r30 ∧ (xh_k σ r30 = 1 ∧ (Q (xh_I σ 2 r30)))) ∧ (¬ l2 = 7 → Q (-1)))))))))))
set_option maxRecDepth 100000 in
set_option maxHeartbeats 4000000 in
theorem ct_X6_about {σ : xS} {a0 : Nat}  {l1 : Int32} {l2 : Int32} {Q : Int32 → Prop} (hW : xw6 σ a0) (hw : wp_X6_about σ a0 l1 l2 Q) : xCt M_X6_about [.ref a0, .int l1, .int l2] σ (xqI (fun r σ2 => σ = σ2 ∧ Q r )) := by
  refine xCt_ofL (lv := [(0, .ref a0), (1, .int l1), (2, .int l2)]) pn_X6 (Nat.le_of_ble_eq_true rfl) rfl ?_
  unfold wp_X6_about at hw
  refine x_aload_n dX6_about_0 rfl 0 rfl ?_
  refine x_iload_n dX6_about_1 rfl 1 rfl ?_
  refine x_callV (M2 := M_X6_thingAt) (As := [.int l1]) (st := []) (ci := 6) (Nat.le_of_ble_eq_true rfl) hW.1 rfl wM_X6_55 wI_X6_thingAt wS_X6_thingAt dX6_about_2 rfl ok_X6_thingAt ⟨(Nat.le_of_ble_eq_true rfl), (Nat.le_of_ble_eq_true rfl)⟩ (Nat.le_of_ble_eq_true rfl) (ct_X6_thingAt hW hw) (xqR.k (fun x1 τ2 hw2 => ?_))
  obtain ⟨he, hw⟩ := hw2
  subst he
  refine x_astore_nQ [(3, va_rf x1), (0, .ref a0), (1, .int l1), (2, .int l2)] dX6_about_5 rfl (Nat.le_of_ble_eq_true rfl) rfl ?_
  refine x_aload_nQ dX6_about_6 rfl 0 rfl ?_
  refine x_ifnonnull 12 dX6_about_7 rfl (fun hn3 => ?_) (fun a4 hs5 => ?_)
  · replace hw := hw.1 hn3
    refine x_iconst dX6_about_10 cI_m1 ?_
    exact x_iret dX6_about_11 rfl ⟨(-1), rfl, rfl, hw⟩
  · replace hw := hw.2 a4 hs5
    refine x_lvS 0 (lv2 := [(3, .ref a4), (0, .ref a0), (1, .int l1), (2, .int l2)]) rfl hs5 rfl ?_
    refine x_iload_n dX6_about_12 rfl 3 rfl ?_
    by_cases hc6 : l2 = 0
    · replace hw := hw.1 hc6
      refine x_tableIn (off := 47) 60 dX6_about_13 (by rw [hc6]; decide) (by rw [hc6]; decide) (by rw [hc6]; rfl) rfl ?_
      refine x_aload_n dX6_about_60 rfl 0 rfl ?_
      obtain ⟨hk7, hw⟩ := hw
      refine x_get (ci := 3) (k := 1) (v := .int (xh_I σ 193 a4)) dX6_about_61 wF_X6_81 (Nat.le_of_ble_eq_true rfl) (Nat.le_of_ble_eq_true rfl) hk7 rfl ?_
      exact x_iret dX6_about_64 rfl ⟨(xh_I σ 193 a4), rfl, rfl, hw⟩
    · replace hw := hw.2 hc6
      by_cases hc8 : l2 = 1
      · replace hw := hw.1 hc8
        refine x_tableIn (off := 52) 65 dX6_about_13 (by rw [hc8]; decide) (by rw [hc8]; decide) (by rw [hc8]; rfl) rfl ?_
        refine x_aload_n dX6_about_65 rfl 0 rfl ?_
        obtain ⟨hk9, hw⟩ := hw
        refine x_get (ci := 3) (k := 2) (v := .int (xh_I σ 194 a4)) dX6_about_66 wF_X6_59 (Nat.le_of_ble_eq_true rfl) (Nat.le_of_ble_eq_true rfl) hk9 rfl ?_
        exact x_iret dX6_about_69 rfl ⟨(xh_I σ 194 a4), rfl, rfl, hw⟩
      · replace hw := hw.2 hc8
        by_cases hc10 : l2 = 2
        · replace hw := hw.1 hc10
          refine x_tableIn (off := 57) 70 dX6_about_13 (by rw [hc10]; decide) (by rw [hc10]; decide) (by rw [hc10]; rfl) rfl ?_
          refine x_aload_n dX6_about_70 rfl 0 rfl ?_
          obtain ⟨hk11, hw⟩ := hw
          refine x_get (ci := 3) (k := 6) (v := .int (xh_I σ 198 a4)) dX6_about_71 wF_X6_84 (Nat.le_of_ble_eq_true rfl) (Nat.le_of_ble_eq_true rfl) hk11 rfl ?_
          exact x_iret dX6_about_74 rfl ⟨(xh_I σ 198 a4), rfl, rfl, hw⟩
        · replace hw := hw.2 hc10
          by_cases hc12 : l2 = 3
          · replace hw := hw.1 hc12
            refine x_tableIn (off := 62) 75 dX6_about_13 (by rw [hc12]; decide) (by rw [hc12]; decide) (by rw [hc12]; rfl) rfl ?_
            refine x_aload_n dX6_about_75 rfl 0 rfl ?_
            obtain ⟨hk13, hw⟩ := hw
            refine x_get (ci := 3) (k := 3) (v := va_rf (xh_R σ 195 a4)) dX6_about_76 wF_X6_87 (Nat.le_of_ble_eq_true rfl) (Nat.le_of_ble_eq_true rfl) hk13 rfl ?_
            refine x_ifnonnull 87 dX6_about_79 rfl (fun hn14 => ?_) (fun a15 hs16 => ?_)
            · replace hw := hw.1 hn14
              refine x_bipush dX6_about_82 cB_m9 ?_
              refine x_goto 94 dX6_about_84 rfl ?_
              exact x_sub [1] rfl (xb_X6_about_94 hW hw)
            · replace hw := hw.2 a15 hs16
              refine x_aload_n dX6_about_87 rfl 0 rfl ?_
              refine x_get (ci := 3) (k := 3) (v := .ref a15) dX6_about_88 wF_X6_87 (Nat.le_of_ble_eq_true rfl) (Nat.le_of_ble_eq_true rfl) hk13 (congrArg va_rf hs16) ?_
              obtain ⟨hk17, hw⟩ := hw
              refine x_get (ci := 3) (k := 0) (v := .int (xh_I σ 192 a15)) dX6_about_91 wF_X6_91 (Nat.le_of_ble_eq_true rfl) (Nat.le_of_ble_eq_true rfl) hk17 rfl ?_
              exact x_sub [1] rfl (xb_X6_about_94 hW hw)
          · replace hw := hw.2 hc12
            by_cases hc18 : l2 = 4
            · replace hw := hw.1 hc18
              refine x_tableIn (off := 82) 95 dX6_about_13 (by rw [hc18]; decide) (by rw [hc18]; decide) (by rw [hc18]; rfl) rfl ?_
              refine x_aload_n dX6_about_95 rfl 0 rfl ?_
              obtain ⟨hk19, hw⟩ := hw
              refine x_get (ci := 3) (k := 4) (v := .int (xh_I σ 196 a4)) dX6_about_96 wF_X6_94 (Nat.le_of_ble_eq_true rfl) (Nat.le_of_ble_eq_true rfl) hk19 rfl ?_
              exact x_iret dX6_about_99 rfl ⟨(xh_I σ 196 a4), rfl, rfl, hw⟩
            · replace hw := hw.2 hc18
              by_cases hc20 : l2 = 5
              · replace hw := hw.1 hc20
                refine x_tableIn (off := 87) 100 dX6_about_13 (by rw [hc20]; decide) (by rw [hc20]; decide) (by rw [hc20]; rfl) rfl ?_
                refine x_aload_n dX6_about_100 rfl 0 rfl ?_
                obtain ⟨hk21, hw⟩ := hw
                refine x_get (ci := 3) (k := 7) (v := .int (xh_I σ 199 a4)) dX6_about_101 wF_X6_63 (Nat.le_of_ble_eq_true rfl) (Nat.le_of_ble_eq_true rfl) hk21 rfl ?_
                refine x_callS (M2 := M_X6_oneIf) (As := [.int (xh_I σ 199 a4)]) (st := []) wM_X6_67 wZ_X6_oneIf dX6_about_104 rfl ok_X6_oneIf ⟨(Nat.le_of_ble_eq_true rfl), (Nat.le_of_ble_eq_true rfl)⟩ (Nat.le_of_ble_eq_true rfl) (ct_X6_oneIf hw) (xqI.k (fun x22 τ23 hw2 => ?_))
                obtain ⟨he, hw⟩ := hw2
                subst he
                exact x_iret dX6_about_107 rfl ⟨x22, rfl, rfl, hw⟩
              · replace hw := hw.2 hc20
                by_cases hc24 : l2 = 6
                · replace hw := hw.1 hc24
                  refine x_tableIn (off := 95) 108 dX6_about_13 (by rw [hc24]; decide) (by rw [hc24]; decide) (by rw [hc24]; rfl) rfl ?_
                  refine x_aload_n dX6_about_108 rfl 0 rfl ?_
                  obtain ⟨hk25, hw⟩ := hw
                  refine x_get (ci := 3) (k := 8) (v := .int (xh_I σ 200 a4)) dX6_about_109 wF_X6_71 (Nat.le_of_ble_eq_true rfl) (Nat.le_of_ble_eq_true rfl) hk25 rfl ?_
                  refine x_callS (M2 := M_X6_oneIf) (As := [.int (xh_I σ 200 a4)]) (st := []) wM_X6_67 wZ_X6_oneIf dX6_about_112 rfl ok_X6_oneIf ⟨(Nat.le_of_ble_eq_true rfl), (Nat.le_of_ble_eq_true rfl)⟩ (Nat.le_of_ble_eq_true rfl) (ct_X6_oneIf hw) (xqI.k (fun x26 τ27 hw2 => ?_))
                  obtain ⟨he, hw⟩ := hw2
                  subst he
                  exact x_iret dX6_about_115 rfl ⟨x26, rfl, rfl, hw⟩
                · replace hw := hw.2 hc24
                  by_cases hc28 : l2 = 7
                  · replace hw := hw.1 hc28
                    refine x_tableIn (off := 103) 116 dX6_about_13 (by rw [hc28]; decide) (by rw [hc28]; decide) (by rw [hc28]; rfl) rfl ?_
                    refine x_aload_n dX6_about_116 rfl 0 rfl ?_
                    obtain ⟨hk29, hw⟩ := hw
                    obtain ⟨r30, hr31, hw⟩ := hw
                    refine x_get (ci := 3) (k := 5) (v := .ref r30) dX6_about_117 wF_X6_97 (Nat.le_of_ble_eq_true rfl) (Nat.le_of_ble_eq_true rfl) hk29 (congrArg va_rf hr31) ?_
                    obtain ⟨hk32, hw⟩ := hw
                    refine x_get (ci := 0) (k := 2) (v := .int (xh_I σ 2 r30)) dX6_about_120 wF_X6_100 (Nat.le_of_ble_eq_true rfl) (Nat.le_of_ble_eq_true rfl) hk32 rfl ?_
                    exact x_iret dX6_about_123 rfl ⟨(xh_I σ 2 r30), rfl, rfl, hw⟩
                  · replace hw := hw.2 hc28
                    refine x_tableOut 124 dX6_about_13 (xsw_0_7 hc6 hc8 hc10 hc12 hc18 hc20 hc24 hc28) rfl ?_
                    refine x_iconst dX6_about_124 cI_m1 ?_
                    exact x_iret dX6_about_125 rfl ⟨(-1), rfl, rfl, hw⟩
-- PromiseWire.promiseAt(I)LPromiseWire$Promise;
def wb_X6_promiseAt_31 (Q : Option Nat → Prop) (σ : xS) (a0 : Nat) (s0 : Option Nat) : Prop := Q s0
set_option maxRecDepth 100000 in
set_option maxHeartbeats 4000000 in
theorem xb_X6_promiseAt_31 {Q : Option Nat → Prop} {σ : xS} {a0 : Nat}  {s0 : Option Nat} (hW : xw6 σ a0)  (hw : wb_X6_promiseAt_31 Q σ a0 s0) : xX M_X6_promiseAt 31 [(0, .ref a0)] [va_rf s0] σ (xqR (fun r σ2 => σ = σ2 ∧ Q r )) := by
  unfold wb_X6_promiseAt_31 at hw
  exact x_aret (r := s0) dX6_promiseAt_31 rfl ⟨s0, rfl, rfl, hw⟩
def wb_X6_promiseAt_21 (Q : Option Nat → Prop) (σ : xS) (a0 : Nat) : Prop := wb_X6_promiseAt_31 Q σ a0 none
set_option maxRecDepth 100000 in
set_option maxHeartbeats 4000000 in
theorem xb_X6_promiseAt_21 {Q : Option Nat → Prop} {σ : xS} {a0 : Nat}  (hW : xw6 σ a0)  (hw : wb_X6_promiseAt_21 Q σ a0) : xX M_X6_promiseAt 21 [(0, .ref a0)] [] σ (xqR (fun r σ2 => σ = σ2 ∧ Q r )) := by
  unfold wb_X6_promiseAt_21 at hw
  refine x_null dX6_promiseAt_21 ?_
  refine x_goto 31 dX6_promiseAt_22 rfl ?_
  exact x_sub [0] rfl (xb_X6_promiseAt_31 hW hw)
def wp_X6_promiseAt (σ : xS) (a0 : Nat) (l1 : Int32) (Q : Option Nat → Prop) : Prop := (l1 < 0 → wb_X6_promiseAt_21 Q σ a0) ∧ (¬ l1 < 0 → ((xh_I σ 390 a0) ≤ l1 → wb_X6_promiseAt_21 Q σ a0) ∧ (¬ (xh_I σ 390 a0) ≤ l1 → (l1 < 100 → vp_in l1 100 ∧ (wb_X6_promiseAt_31 Q σ a0 (xh_q σ (a0 + 2) l1.toNatClampNeg))) ∧ (¬ l1 < 100 → wb_X6_promiseAt_21 Q σ a0)))
set_option maxRecDepth 100000 in
set_option maxHeartbeats 4000000 in
theorem ct_X6_promiseAt {σ : xS} {a0 : Nat}  {l1 : Int32} {Q : Option Nat → Prop} (hW : xw6 σ a0) (hw : wp_X6_promiseAt σ a0 l1 Q) : xCt M_X6_promiseAt [.ref a0, .int l1] σ (xqR (fun r σ2 => σ = σ2 ∧ Q r )) := by
  refine xCt_ofL (lv := [(0, .ref a0), (1, .int l1)]) pn_X6 (Nat.le_of_ble_eq_true rfl) rfl ?_
  unfold wp_X6_promiseAt at hw
  refine x_iload_n dX6_promiseAt_0 rfl 1 rfl ?_
  refine x_if_lt 21 dX6_promiseAt_1 rfl (fun hc1 => ?_) (fun hc1 => ?_)
  · replace hw := hw.1 hc1
    exact x_sub [0] rfl (xb_X6_promiseAt_21 hW hw)
  · replace hw := hw.2 hc1
    refine x_iload_n dX6_promiseAt_4 rfl 1 rfl ?_
    refine x_aload_n dX6_promiseAt_5 rfl 0 rfl ?_
    refine x_get (ci := 6) (k := 6) (v := .int (xh_I σ 390 a0)) dX6_promiseAt_6 wF_X6_110 (Nat.le_of_ble_eq_true rfl) (Nat.le_of_ble_eq_true rfl) hW.1 rfl ?_
    refine x_icmp_ge 21 dX6_promiseAt_9 rfl (fun hc2 => ?_) (fun hc2 => ?_)
    · replace hw := hw.1 hc2
      exact x_sub [0] rfl (xb_X6_promiseAt_21 hW hw)
    · replace hw := hw.2 hc2
      refine x_iload_n dX6_promiseAt_12 rfl 1 rfl ?_
      refine x_aload_n dX6_promiseAt_13 rfl 0 rfl ?_
      refine x_get (ci := 6) (k := 1) (v := .ref (a0 + 2)) dX6_promiseAt_14 wF_X6_17 (Nat.le_of_ble_eq_true rfl) (Nat.le_of_ble_eq_true rfl) hW.1 (congrArg va_rf (w6r_2 hW)) ?_
      refine x_alenZ (t := 3) (v := 100) dX6_promiseAt_17 (w6k_2 hW) (Nat.le_of_ble_eq_true rfl) (w6z_2 hW) rfl ?_
      refine x_icmp_lt 25 dX6_promiseAt_18 rfl (fun hc3 => ?_) (fun hc3 => ?_)
      · replace hw := hw.1 hc3
        refine x_aload_n dX6_promiseAt_25 rfl 0 rfl ?_
        refine x_get (ci := 6) (k := 1) (v := .ref (a0 + 2)) dX6_promiseAt_26 wF_X6_17 (Nat.le_of_ble_eq_true rfl) (Nat.le_of_ble_eq_true rfl) hW.1 (congrArg va_rf (w6r_2 hW)) ?_
        refine x_iload_n dX6_promiseAt_29 rfl 1 rfl ?_
        obtain ⟨hv4, hw⟩ := hw
        refine x_aaldZ (t := 1) dX6_promiseAt_30 (w6k_2 hW) (Nat.le_of_ble_eq_true rfl) (w6z_2 hW) hv4 ?_
        exact x_sub [0] rfl (xb_X6_promiseAt_31 hW hw)
      · replace hw := hw.2 hc3
        exact x_sub [0] rfl (xb_X6_promiseAt_21 hW hw)
