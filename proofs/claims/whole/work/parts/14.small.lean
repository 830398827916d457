-- PromiseWire$Line.<init>()V
def wp_X0_init (σ : xS) (a0 : Nat) (Q : Prop) : Prop := Q
set_option maxRecDepth 100000 in
set_option maxHeartbeats 4000000 in
theorem ct_X0_init {σ : xS} {a0 : Nat}  {Q : Prop} (hk0 : xh_k σ a0 = 1) (hw : wp_X0_init σ a0 Q) : xCt M_X0_init [.ref a0] σ (xqV (fun σ2 => σ = σ2 ∧ Q )) := by
  refine xCt_ofL (lv := [(0, .ref a0)]) pn_X0 (Nat.le_of_ble_eq_true rfl) rfl ?_
  unfold wp_X0_init at hw
  refine x_aload_n dX0_init_0 rfl 0 rfl ?_
  refine x_objInit dX0_init_1 wO_X0_1 wI_obj wC_obj (Nat.le_of_ble_eq_true rfl) (Nat.le_of_ble_eq_true rfl) (Nat.le_of_ble_eq_true rfl) ?_
  exact x_vret dX0_init_4 rfl ⟨rfl, rfl, hw⟩
-- PromiseWire$Line.add(LPromiseWire$Message;)V
def wb_X0_add_28 (Q : xS → Prop) (σ : xS) (a0 : Nat) (l1 : Nat) : Prop := ∀ σ1, σ1 = xs_R σ 1 a0 (some l1) → (∀ σ2, σ2 = xs_I σ1 2 a0 ((xh_I σ1 2 a0) + 1) → (Q σ2))
set_option maxRecDepth 100000 in
set_option maxHeartbeats 4000000 in
theorem xb_X0_add_28 {Q : xS → Prop} {σ : xS} {a0 : Nat}  {l1 : Nat} (hk0 : xh_k σ a0 = 1)  (hw : wb_X0_add_28 Q σ a0 l1) : xX M_X0_add 28 [(0, .ref a0), (1, .ref l1)] [] σ (xqV (fun σ2 => Q σ2)) := by
  unfold wb_X0_add_28 at hw
  refine x_aload_n dX0_add_28 rfl 0 rfl ?_
  refine x_aload_n dX0_add_29 rfl 1 rfl ?_
  refine x_putRN (r := (some l1)) (ci := 0) (k := 1) (f := 1) dX0_add_30 wF_X0_13 (Nat.le_of_ble_eq_true rfl) (Nat.le_of_ble_eq_true rfl) hk0 (Or.inl rfl) rfl rfl (fun σ1 hσ1 => ?_)
  replace hw := hw σ1 hσ1
  refine x_aload_n dX0_add_33 rfl 0 rfl ?_
  refine x_dup dX0_add_34 rfl ?_
  refine x_get (ci := 0) (k := 2) (v := .int (xh_I σ1 2 a0)) dX0_add_35 wF_X0_21 (Nat.le_of_ble_eq_true rfl) (Nat.le_of_ble_eq_true rfl) (xk_R hσ1 hk0) rfl ?_
  refine x_iconst dX0_add_38 cI_1 ?_
  refine x_iadd dX0_add_39 ?_
  refine x_putIN (ci := 0) (k := 2) (f := 2) dX0_add_40 wF_X0_21 (Nat.le_of_ble_eq_true rfl) (Nat.le_of_ble_eq_true rfl) (xk_R hσ1 hk0) (Or.inl rfl) rfl (Or.inl rfl) (fun σ2 hσ2 => ?_)
  replace hw := hw σ2 hσ2
  exact x_vret dX0_add_43 rfl ⟨rfl, hw⟩
def wp_X0_add (σ : xS) (a0 : Nat) (l1 : Nat) (Q : xS → Prop) : Prop := xh_k σ l1 = 2 ∧ ∀ σ4, σ4 = xs_R σ 76 l1 none → ((xh_R σ4 1 a0 = none → ∀ σ8, σ8 = xs_R σ4 0 a0 (some l1) → (wb_X0_add_28 Q σ8 a0 l1)) ∧ (∀ a6, xh_R σ4 1 a0 = some a6 → xh_k σ4 a6 = 2 ∧ ∀ σ10, σ10 = xs_R σ4 76 a6 (some l1) → (wb_X0_add_28 Q σ10 a0 l1)))
set_option maxRecDepth 100000 in
set_option maxHeartbeats 4000000 in
theorem ct_X0_add {σ : xS} {a0 : Nat}  {l1 : Nat} {Q : xS → Prop} (hk0 : xh_k σ a0 = 1) (hw : wp_X0_add σ a0 l1 Q) : xCt M_X0_add [.ref a0, .ref l1] σ (xqV (fun σ2 => Q σ2)) := by
  refine xCt_ofL (lv := [(0, .ref a0), (1, .ref l1)]) pn_X0 (Nat.le_of_ble_eq_true rfl) rfl ?_
  unfold wp_X0_add at hw
  refine x_aload_n dX0_add_0 rfl 1 rfl ?_
  refine x_null dX0_add_1 ?_
  obtain ⟨hk3, hw⟩ := hw
  refine x_putRN (r := none) (ci := 1) (k := 12) (f := 76) dX0_add_2 wF_X0_7 (Nat.le_of_ble_eq_true rfl) (Nat.le_of_ble_eq_true rfl) hk3 (Or.inl rfl) rfl rfl (fun σ4 hσ4 => ?_)
  replace hw := hw σ4 hσ4
  refine x_aload_n dX0_add_5 rfl 0 rfl ?_
  refine x_get (ci := 0) (k := 1) (v := va_rf (xh_R σ4 1 a0)) dX0_add_6 wF_X0_13 (Nat.le_of_ble_eq_true rfl) (Nat.le_of_ble_eq_true rfl) (xk_R hσ4 hk0) rfl ?_
  refine x_ifnonnull 20 dX0_add_9 rfl (fun hn5 => ?_) (fun a6 hs7 => ?_)
  · replace hw := hw.1 hn5
    refine x_aload_n dX0_add_12 rfl 0 rfl ?_
    refine x_aload_n dX0_add_13 rfl 1 rfl ?_
    refine x_putRN (r := (some l1)) (ci := 0) (k := 0) (f := 0) dX0_add_14 wF_X0_18 (Nat.le_of_ble_eq_true rfl) (Nat.le_of_ble_eq_true rfl) (xk_R hσ4 hk0) (Or.inl rfl) rfl rfl (fun σ8 hσ8 => ?_)
    replace hw := hw σ8 hσ8
    refine x_goto 28 dX0_add_17 rfl ?_
    exact x_sub [0, 1] rfl (xb_X0_add_28 (xk_R hσ8 (xk_R hσ4 hk0)) hw)
  · replace hw := hw.2 a6 hs7
    refine x_aload_n dX0_add_20 rfl 0 rfl ?_
    refine x_get (ci := 0) (k := 1) (v := .ref a6) dX0_add_21 wF_X0_13 (Nat.le_of_ble_eq_true rfl) (Nat.le_of_ble_eq_true rfl) (xk_R hσ4 hk0) (congrArg va_rf hs7) ?_
    refine x_aload_n dX0_add_24 rfl 1 rfl ?_
    obtain ⟨hk9, hw⟩ := hw
    refine x_putRN (r := (some l1)) (ci := 1) (k := 12) (f := 76) dX0_add_25 wF_X0_7 (Nat.le_of_ble_eq_true rfl) (Nat.le_of_ble_eq_true rfl) hk9 (Or.inl rfl) rfl rfl (fun σ10 hσ10 => ?_)
    replace hw := hw σ10 hσ10
    exact x_sub [0, 1] rfl (xb_X0_add_28 (xk_R hσ10 (xk_R hσ4 hk0)) hw)
-- PromiseWire$Line.take()LPromiseWire$Message;
def wb_X0_take_31 (Q : Option Nat → xS → Prop) (σ : xS) (a0 : Nat) (l1 : Nat) : Prop := xh_k σ l1 = 2 ∧ ∀ σ2, σ2 = xs_R σ 76 l1 none → (∀ σ3, σ3 = xs_I σ2 2 a0 ((xh_I σ2 2 a0) - 1) → (Q (some l1) σ3))
set_option maxRecDepth 100000 in
set_option maxHeartbeats 4000000 in
theorem xb_X0_take_31 {Q : Option Nat → xS → Prop} {σ : xS} {a0 : Nat}  {l1 : Nat} (hk0 : xh_k σ a0 = 1)  (hw : wb_X0_take_31 Q σ a0 l1) : xX M_X0_take 31 [(0, .ref a0), (1, .ref l1)] [] σ (xqR (fun r σ2 => Q r σ2)) := by
  unfold wb_X0_take_31 at hw
  refine x_aload_n dX0_take_31 rfl 1 rfl ?_
  refine x_null dX0_take_32 ?_
  obtain ⟨hk1, hw⟩ := hw
  refine x_putRN (r := none) (ci := 1) (k := 12) (f := 76) dX0_take_33 wF_X0_7 (Nat.le_of_ble_eq_true rfl) (Nat.le_of_ble_eq_true rfl) hk1 (Or.inl rfl) rfl rfl (fun σ2 hσ2 => ?_)
  replace hw := hw σ2 hσ2
  refine x_aload_n dX0_take_36 rfl 0 rfl ?_
  refine x_dup dX0_take_37 rfl ?_
  refine x_get (ci := 0) (k := 2) (v := .int (xh_I σ2 2 a0)) dX0_take_38 wF_X0_21 (Nat.le_of_ble_eq_true rfl) (Nat.le_of_ble_eq_true rfl) (xk_R hσ2 hk0) rfl ?_
  refine x_iconst dX0_take_41 cI_1 ?_
  refine x_isub dX0_take_42 ?_
  refine x_putIN (ci := 0) (k := 2) (f := 2) dX0_take_43 wF_X0_21 (Nat.le_of_ble_eq_true rfl) (Nat.le_of_ble_eq_true rfl) (xk_R hσ2 hk0) (Or.inl rfl) rfl (Or.inl rfl) (fun σ3 hσ3 => ?_)
  replace hw := hw σ3 hσ3
  refine x_aload_n dX0_take_46 rfl 1 rfl ?_
  exact x_aret (r := (some l1)) dX0_take_47 rfl ⟨(some l1), rfl, hw⟩
def wp_X0_take (σ : xS) (a0 : Nat) (Q : Option Nat → xS → Prop) : Prop := (xh_R σ 0 a0 = none → Q none σ) ∧ (∀ a5, xh_R σ 0 a0 = some a5 → xh_k σ a5 = 2 ∧ (∀ σ8, σ8 = xs_R σ 0 a0 (xh_R σ 76 a5) → ((xh_R σ8 0 a0 = none → ∀ σ12, σ12 = xs_R σ8 1 a0 none → (wb_X0_take_31 Q σ12 a0 a5)) ∧ (∀ a10, xh_R σ8 0 a0 = some a10 → wb_X0_take_31 Q σ8 a0 a5))))
set_option maxRecDepth 100000 in
set_option maxHeartbeats 4000000 in
theorem ct_X0_take {σ : xS} {a0 : Nat}  {Q : Option Nat → xS → Prop} (hk0 : xh_k σ a0 = 1) (hw : wp_X0_take σ a0 Q) : xCt M_X0_take [.ref a0] σ (xqR (fun r σ2 => Q r σ2)) := by
  refine xCt_ofL (lv := [(0, .ref a0)]) pn_X0 (Nat.le_of_ble_eq_true rfl) rfl ?_
  unfold wp_X0_take at hw
  refine x_aload_n dX0_take_0 rfl 0 rfl ?_
  refine x_get (ci := 0) (k := 0) (v := va_rf (xh_R σ 0 a0)) dX0_take_1 wF_X0_18 (Nat.le_of_ble_eq_true rfl) (Nat.le_of_ble_eq_true rfl) hk0 rfl ?_
  refine x_astore_nQ [(1, va_rf (xh_R σ 0 a0)), (0, .ref a0)] dX0_take_4 rfl (Nat.le_of_ble_eq_true rfl) rfl ?_
  refine x_aload_nQ dX0_take_5 rfl 0 rfl ?_
  refine x_ifnonnull 11 dX0_take_6 rfl (fun hn4 => ?_) (fun a5 hs6 => ?_)
  · replace hw := hw.1 hn4
    refine x_null dX0_take_9 ?_
    exact x_aret (r := none) dX0_take_10 rfl ⟨none, rfl, hw⟩
  · replace hw := hw.2 a5 hs6
    refine x_lvS 0 (lv2 := [(1, .ref a5), (0, .ref a0)]) rfl hs6 rfl ?_
    refine x_aload_n dX0_take_11 rfl 1 rfl ?_
    refine x_aload_n dX0_take_12 rfl 0 rfl ?_
    obtain ⟨hk7, hw⟩ := hw
    refine x_get (ci := 1) (k := 12) (v := va_rf (xh_R σ 76 a5)) dX0_take_13 wF_X0_7 (Nat.le_of_ble_eq_true rfl) (Nat.le_of_ble_eq_true rfl) hk7 rfl ?_
    refine x_putRN (r := (xh_R σ 76 a5)) (ci := 0) (k := 0) (f := 0) dX0_take_16 wF_X0_18 (Nat.le_of_ble_eq_true rfl) (Nat.le_of_ble_eq_true rfl) hk0 (Or.inl rfl) rfl rfl (fun σ8 hσ8 => ?_)
    replace hw := hw σ8 hσ8
    refine x_aload_n dX0_take_19 rfl 1 rfl ?_
    refine x_get (ci := 0) (k := 0) (v := va_rf (xh_R σ8 0 a0)) dX0_take_20 wF_X0_18 (Nat.le_of_ble_eq_true rfl) (Nat.le_of_ble_eq_true rfl) (xk_R hσ8 hk0) rfl ?_
    refine x_ifnonnull 31 dX0_take_23 rfl (fun hn9 => ?_) (fun a10 hs11 => ?_)
    · replace hw := hw.1 hn9
      refine x_aload_n dX0_take_26 rfl 1 rfl ?_
      refine x_null dX0_take_27 ?_
      refine x_putRN (r := none) (ci := 0) (k := 1) (f := 1) dX0_take_28 wF_X0_13 (Nat.le_of_ble_eq_true rfl) (Nat.le_of_ble_eq_true rfl) (xk_R hσ8 hk0) (Or.inl rfl) rfl rfl (fun σ12 hσ12 => ?_)
      replace hw := hw σ12 hσ12
      exact x_sub [1, 0] rfl (xb_X0_take_31 (xk_R hσ12 (xk_R hσ8 hk0)) hw)
    · replace hw := hw.2 a10 hs11
      exact x_sub [1, 0] rfl (xb_X0_take_31 (xk_R hσ8 hk0) hw)
-- PromiseWire$Line.at(I)LPromiseWire$Message;
def wb_X0_at_41 (Q : Option Nat → Prop) (σ : xS) (a0 : Nat) (l2 : Option Nat) : Prop := Q l2
set_option maxRecDepth 100000 in
set_option maxHeartbeats 4000000 in
theorem xb_X0_at_41 {Q : Option Nat → Prop} {σ : xS} {a0 : Nat}  {l2 : Option Nat} (hk0 : xh_k σ a0 = 1)  (hw : wb_X0_at_41 Q σ a0 l2) : xX M_X0_at 41 [(0, .ref a0), (2, va_rf l2)] [] σ (xqR (fun r σ2 => σ = σ2 ∧ Q r )) := by
  unfold wb_X0_at_41 at hw
  refine x_aload_nQ dX0_at_41 rfl 1 rfl ?_
  exact x_aret (r := l2) dX0_at_42 rfl ⟨l2, rfl, rfl, hw⟩
def wb_X0_at_21 (Q : Option Nat → Prop) (σ : xS) (a0 : Nat) : Nat → Int32 → Option Nat → Int32 → Prop
  | 0, _, _, _ => False
  | n + 1, l1, l2, l3 => (l1 ≤ l3 → wb_X0_at_41 Q σ a0 l2) ∧ (¬ l1 ≤ l3 → (l2 = none → wb_X0_at_41 Q σ a0 l2) ∧ (∀ a3, l2 = some a3 → xh_k σ a3 = 2 ∧ (wb_X0_at_21 Q σ a0 n l1 (xh_R σ 76 a3) (l3 + 1))))
set_option maxRecDepth 100000 in
set_option maxHeartbeats 4000000 in
theorem xl_X0_at_21 {Q : Option Nat → Prop} {σ : xS} {a0 : Nat}  (hk0 : xh_k σ a0 = 1)  : ∀ (n : Nat) (l1 : Int32) (l2 : Option Nat) (l3 : Int32), wb_X0_at_21 Q σ a0 n l1 l2 l3 → xX M_X0_at 21 [(0, .ref a0), (1, .int l1), (2, va_rf l2), (3, .int l3)] [] σ (xqR (fun r σ2 => σ = σ2 ∧ Q r )) := by
  intro n
  induction n with
  | zero => intro l1 l2 l3 hw; exact False.elim hw
  | succ n ih =>
    intro l1 l2 l3 hw
    unfold wb_X0_at_21 at hw
    refine x_iload_n dX0_at_21 rfl 3 rfl ?_
    refine x_iload_n dX0_at_22 rfl 1 rfl ?_
    refine x_icmp_ge 41 dX0_at_23 rfl (fun hc1 => ?_) (fun hc1 => ?_)
    · replace hw := hw.1 hc1
      exact x_sub [0, 2] rfl (xb_X0_at_41 hk0 hw)
    · replace hw := hw.2 hc1
      refine x_aload_nQ dX0_at_26 rfl 2 rfl ?_
      refine x_ifnull 41 dX0_at_27 rfl (fun hn2 => ?_) (fun a3 hs4 => ?_)
      · replace hw := hw.1 hn2
        exact x_sub [0, 2] rfl (xb_X0_at_41 hk0 hw)
      · replace hw := hw.2 a3 hs4
        refine x_lvS 2 (lv2 := [(0, .ref a0), (1, .int l1), (2, .ref a3), (3, .int l3)]) rfl hs4 rfl ?_
        refine x_aload_n dX0_at_30 rfl 2 rfl ?_
        obtain ⟨hk5, hw⟩ := hw
        refine x_get (ci := 1) (k := 12) (v := va_rf (xh_R σ 76 a3)) dX0_at_31 wF_X0_7 (Nat.le_of_ble_eq_true rfl) (Nat.le_of_ble_eq_true rfl) hk5 rfl ?_
        refine x_astore_nQ [(2, va_rf (xh_R σ 76 a3)), (0, .ref a0), (1, .int l1), (3, .int l3)] dX0_at_34 rfl (Nat.le_of_ble_eq_true rfl) rfl ?_
        refine x_iinc [(3, .int (l3 + 1)), (2, va_rf (xh_R σ 76 a3)), (0, .ref a0), (1, .int l1)] dX0_at_35 3 rfl (congrArg _ cI_1) (Nat.le_of_ble_eq_true rfl) (by simp [xcat, xcatI, xcatR, xcatL, xcatN]) ?_
        refine x_goto 21 dX0_at_38 rfl ?_
        exact x_sub [2, 3, 1, 0] rfl (ih _ _ _ hw)
def wb_X0_at_12 (Q : Option Nat → Prop) (σ : xS) (a0 : Nat) : Prop := Q none
set_option maxRecDepth 100000 in
set_option maxHeartbeats 4000000 in
theorem xb_X0_at_12 {Q : Option Nat → Prop} {σ : xS} {a0 : Nat}  (hk0 : xh_k σ a0 = 1)  (hw : wb_X0_at_12 Q σ a0) : xX M_X0_at 12 [(0, .ref a0)] [] σ (xqR (fun r σ2 => σ = σ2 ∧ Q r )) := by
  unfold wb_X0_at_12 at hw
  refine x_null dX0_at_12 ?_
  exact x_aret (r := none) dX0_at_13 rfl ⟨none, rfl, rfl, hw⟩
def wp_X0_at (σ : xS) (a0 : Nat) (l1 : Int32) (Q : Option Nat → Prop) : Prop := (l1 < 0 → wb_X0_at_12 Q σ a0) ∧ (¬ l1 < 0 → (l1 < (xh_I σ 2 a0) → ∃ m21, wb_X0_at_21 Q σ a0 m21 l1 (xh_R σ 0 a0) 0) ∧ (¬ l1 < (xh_I σ 2 a0) → wb_X0_at_12 Q σ a0))
set_option maxRecDepth 100000 in
set_option maxHeartbeats 4000000 in
theorem ct_X0_at {σ : xS} {a0 : Nat}  {l1 : Int32} {Q : Option Nat → Prop} (hk0 : xh_k σ a0 = 1) (hw : wp_X0_at σ a0 l1 Q) : xCt M_X0_at [.ref a0, .int l1] σ (xqR (fun r σ2 => σ = σ2 ∧ Q r )) := by
  refine xCt_ofL (lv := [(0, .ref a0), (1, .int l1)]) pn_X0 (Nat.le_of_ble_eq_true rfl) rfl ?_
  unfold wp_X0_at at hw
  refine x_iload_n dX0_at_0 rfl 1 rfl ?_
  refine x_if_lt 12 dX0_at_1 rfl (fun hc6 => ?_) (fun hc6 => ?_)
  · replace hw := hw.1 hc6
    exact x_sub [0] rfl (xb_X0_at_12 hk0 hw)
  · replace hw := hw.2 hc6
    refine x_iload_n dX0_at_4 rfl 1 rfl ?_
    refine x_aload_n dX0_at_5 rfl 0 rfl ?_
    refine x_get (ci := 0) (k := 2) (v := .int (xh_I σ 2 a0)) dX0_at_6 wF_X0_21 (Nat.le_of_ble_eq_true rfl) (Nat.le_of_ble_eq_true rfl) hk0 rfl ?_
    refine x_icmp_lt 14 dX0_at_9 rfl (fun hc7 => ?_) (fun hc7 => ?_)
    · replace hw := hw.1 hc7
      refine x_aload_n dX0_at_14 rfl 0 rfl ?_
      refine x_get (ci := 0) (k := 0) (v := va_rf (xh_R σ 0 a0)) dX0_at_15 wF_X0_18 (Nat.le_of_ble_eq_true rfl) (Nat.le_of_ble_eq_true rfl) hk0 rfl ?_
      refine x_astore_nQ [(2, va_rf (xh_R σ 0 a0)), (0, .ref a0), (1, .int l1)] dX0_at_18 rfl (Nat.le_of_ble_eq_true rfl) rfl ?_
      refine x_iconst dX0_at_19 cI_0 ?_
      refine x_istore_n (i := 3) [(3, .int 0), (2, va_rf (xh_R σ 0 a0)), (0, .ref a0), (1, .int l1)] dX0_at_20 rfl (Nat.le_of_ble_eq_true rfl) (by simp [xcat, xcatI, xcatR, xcatL, xcatN]) ?_
      obtain ⟨m21, hw⟩ := hw
      exact x_sub [2, 3, 1, 0] rfl (xl_X0_at_21 hk0 m21 _ _ _ hw)
    · replace hw := hw.2 hc7
      exact x_sub [0] rfl (xb_X0_at_12 hk0 hw)
-- PromiseWire$Line.sumOfNs()I
def wb_X0_sumOfNs_39 (Q : Int32 → Prop) (σ : xS) (a0 : Nat) (l1 : Int32) : Prop := Q l1
set_option maxRecDepth 100000 in
set_option maxHeartbeats 4000000 in
theorem xb_X0_sumOfNs_39 {Q : Int32 → Prop} {σ : xS} {a0 : Nat}  {l1 : Int32} (hk0 : xh_k σ a0 = 1)  (hw : wb_X0_sumOfNs_39 Q σ a0 l1) : xX M_X0_sumOfNs 39 [(0, .ref a0), (1, .int l1)] [] σ (xqI (fun r σ2 => σ = σ2 ∧ Q r )) := by
  unfold wb_X0_sumOfNs_39 at hw
  refine x_iload_n dX0_sumOfNs_39 rfl 1 rfl ?_
  exact x_iret dX0_sumOfNs_40 rfl ⟨l1, rfl, rfl, hw⟩
def wb_X0_sumOfNs_9 (Q : Int32 → Prop) (σ : xS) (a0 : Nat) : Nat → Int32 → Option Nat → Int32 → Prop
  | 0, _, _, _ => False
  | n + 1, l1, l2, l3 => ((xh_I σ 2 a0) ≤ l3 → wb_X0_sumOfNs_39 Q σ a0 l1) ∧ (¬ (xh_I σ 2 a0) ≤ l3 → (l2 = none → wb_X0_sumOfNs_39 Q σ a0 l1) ∧ (∀ a3, l2 = some a3 → xh_k σ a3 = 2 ∧ (wb_X0_sumOfNs_9 Q σ a0 n (l1 + (xh_I σ 66 a3)) (xh_R σ 76 a3) (l3 + 1))))
set_option maxRecDepth 100000 in
set_option maxHeartbeats 4000000 in
theorem xl_X0_sumOfNs_9 {Q : Int32 → Prop} {σ : xS} {a0 : Nat}  (hk0 : xh_k σ a0 = 1)  : ∀ (n : Nat) (l1 : Int32) (l2 : Option Nat) (l3 : Int32), wb_X0_sumOfNs_9 Q σ a0 n l1 l2 l3 → xX M_X0_sumOfNs 9 [(0, .ref a0), (1, .int l1), (2, va_rf l2), (3, .int l3)] [] σ (xqI (fun r σ2 => σ = σ2 ∧ Q r )) := by
  intro n
  induction n with
  | zero => intro l1 l2 l3 hw; exact False.elim hw
  | succ n ih =>
    intro l1 l2 l3 hw
    unfold wb_X0_sumOfNs_9 at hw
    refine x_iload_n dX0_sumOfNs_9 rfl 3 rfl ?_
    refine x_aload_n dX0_sumOfNs_10 rfl 0 rfl ?_
    refine x_get (ci := 0) (k := 2) (v := .int (xh_I σ 2 a0)) dX0_sumOfNs_11 wF_X0_21 (Nat.le_of_ble_eq_true rfl) (Nat.le_of_ble_eq_true rfl) hk0 rfl ?_
    refine x_icmp_ge 39 dX0_sumOfNs_14 rfl (fun hc1 => ?_) (fun hc1 => ?_)
    · replace hw := hw.1 hc1
      exact x_sub [0, 1] rfl (xb_X0_sumOfNs_39 hk0 hw)
    · replace hw := hw.2 hc1
      refine x_aload_nQ dX0_sumOfNs_17 rfl 2 rfl ?_
      refine x_ifnull 39 dX0_sumOfNs_18 rfl (fun hn2 => ?_) (fun a3 hs4 => ?_)
      · replace hw := hw.1 hn2
        exact x_sub [0, 1] rfl (xb_X0_sumOfNs_39 hk0 hw)
      · replace hw := hw.2 a3 hs4
        refine x_lvS 2 (lv2 := [(0, .ref a0), (1, .int l1), (2, .ref a3), (3, .int l3)]) rfl hs4 rfl ?_
        refine x_iload_n dX0_sumOfNs_21 rfl 1 rfl ?_
        refine x_aload_n dX0_sumOfNs_22 rfl 2 rfl ?_
        obtain ⟨hk5, hw⟩ := hw
        refine x_get (ci := 1) (k := 2) (v := .int (xh_I σ 66 a3)) dX0_sumOfNs_23 wF_X0_25 (Nat.le_of_ble_eq_true rfl) (Nat.le_of_ble_eq_true rfl) hk5 rfl ?_
        refine x_iadd dX0_sumOfNs_26 ?_
        refine x_istore_n [(1, .int (l1 + (xh_I σ 66 a3))), (0, .ref a0), (2, .ref a3), (3, .int l3)] dX0_sumOfNs_27 rfl (Nat.le_of_ble_eq_true rfl) rfl ?_
        refine x_aload_n dX0_sumOfNs_28 rfl 2 rfl ?_
        refine x_get (ci := 1) (k := 12) (v := va_rf (xh_R σ 76 a3)) dX0_sumOfNs_29 wF_X0_7 (Nat.le_of_ble_eq_true rfl) (Nat.le_of_ble_eq_true rfl) hk5 rfl ?_
        refine x_astore_nQ [(2, va_rf (xh_R σ 76 a3)), (1, .int (l1 + (xh_I σ 66 a3))), (0, .ref a0), (3, .int l3)] dX0_sumOfNs_32 rfl (Nat.le_of_ble_eq_true rfl) rfl ?_
        refine x_iinc [(3, .int (l3 + 1)), (2, va_rf (xh_R σ 76 a3)), (1, .int (l1 + (xh_I σ 66 a3))), (0, .ref a0)] dX0_sumOfNs_33 3 rfl (congrArg _ cI_1) (Nat.le_of_ble_eq_true rfl) (by simp [xcat, xcatI, xcatR, xcatL, xcatN]) ?_
        refine x_goto 9 dX0_sumOfNs_36 rfl ?_
        exact x_sub [3, 2, 1, 0] rfl (ih _ _ _ hw)
def wp_X0_sumOfNs (σ : xS) (a0 : Nat) (Q : Int32 → Prop) : Prop := ∃ m9, wb_X0_sumOfNs_9 Q σ a0 m9 0 (xh_R σ 0 a0) 0
set_option maxRecDepth 100000 in
set_option maxHeartbeats 4000000 in
theorem ct_X0_sumOfNs {σ : xS} {a0 : Nat}  {Q : Int32 → Prop} (hk0 : xh_k σ a0 = 1) (hw : wp_X0_sumOfNs σ a0 Q) : xCt M_X0_sumOfNs [.ref a0] σ (xqI (fun r σ2 => σ = σ2 ∧ Q r )) := by
  refine xCt_ofL (lv := [(0, .ref a0)]) pn_X0 (Nat.le_of_ble_eq_true rfl) rfl ?_
  unfold wp_X0_sumOfNs at hw
  refine x_iconst dX0_sumOfNs_0 cI_0 ?_
  refine x_istore_n [(1, .int 0), (0, .ref a0)] dX0_sumOfNs_1 rfl (Nat.le_of_ble_eq_true rfl) rfl ?_
  refine x_aload_n dX0_sumOfNs_2 rfl 1 rfl ?_
  refine x_get (ci := 0) (k := 0) (v := va_rf (xh_R σ 0 a0)) dX0_sumOfNs_3 wF_X0_18 (Nat.le_of_ble_eq_true rfl) (Nat.le_of_ble_eq_true rfl) hk0 rfl ?_
  refine x_astore_nQ [(2, va_rf (xh_R σ 0 a0)), (1, .int 0), (0, .ref a0)] dX0_sumOfNs_6 rfl (Nat.le_of_ble_eq_true rfl) rfl ?_
  refine x_iconst dX0_sumOfNs_7 cI_0 ?_
  refine x_istore_n (i := 3) [(3, .int 0), (2, va_rf (xh_R σ 0 a0)), (1, .int 0), (0, .ref a0)] dX0_sumOfNs_8 rfl (Nat.le_of_ble_eq_true rfl) (by simp [xcat, xcatI, xcatR, xcatL, xcatN]) ?_
  obtain ⟨m9, hw⟩ := hw
  exact x_sub [3, 2, 1, 0] rfl (xl_X0_sumOfNs_9 hk0 m9 _ _ _ hw)
-- PromiseWire$Message.<init>(IILPromiseWire$Thing;)V
def wp_X1_init (σ : xS) (a0 : Nat) (l1 : Int32) (l2 : Int32) (l3 : Option Nat) (Q : xS → Prop) : Prop := ∀ σ1, σ1 = xs_I σ 65 a0 l1 → (∀ σ2, σ2 = xs_I σ1 66 a0 l2 → (∀ σ3, σ3 = xs_R σ2 67 a0 l3 → (Q σ3)))
set_option maxRecDepth 100000 in
set_option maxHeartbeats 4000000 in
theorem ct_X1_init {σ : xS} {a0 : Nat}  {l1 : Int32} {l2 : Int32} {l3 : Option Nat} {Q : xS → Prop} (hk0 : xh_k σ a0 = 2) (hw : wp_X1_init σ a0 l1 l2 l3 Q) : xCt M_X1_init [.ref a0, .int l1, .int l2, va_rf l3] σ (xqV (fun σ2 => Q σ2)) := by
  refine xCt_ofL (lv := [(0, .ref a0), (1, .int l1), (2, .int l2), (3, va_rf l3)]) pn_X1 (by simp [lg_sl, xcat, xcatI, xcatR, xcatL, xcatN] <;> decide) (by simp [lv_args, xcat, xcatI, xcatR, xcatL, xcatN]) ?_
  unfold wp_X1_init at hw
  refine x_aload_n dX1_init_0 rfl 0 rfl ?_
  refine x_objInit dX1_init_1 wO_X1_3 wI_obj wC_obj (Nat.le_of_ble_eq_true rfl) (Nat.le_of_ble_eq_true rfl) (Nat.le_of_ble_eq_true rfl) ?_
  refine x_aload_n dX1_init_4 rfl 0 rfl ?_
  refine x_iload_n dX1_init_5 rfl 1 rfl ?_
  refine x_putIN (ci := 1) (k := 1) (f := 65) dX1_init_6 wF_X1_9 (Nat.le_of_ble_eq_true rfl) (Nat.le_of_ble_eq_true rfl) hk0 (Or.inl rfl) rfl (Or.inl rfl) (fun σ1 hσ1 => ?_)
  replace hw := hw σ1 hσ1
  refine x_aload_n dX1_init_9 rfl 0 rfl ?_
  refine x_iload_n dX1_init_10 rfl 2 rfl ?_
  refine x_putIN (ci := 1) (k := 2) (f := 66) dX1_init_11 wF_X1_15 (Nat.le_of_ble_eq_true rfl) (Nat.le_of_ble_eq_true rfl) (xk_I hσ1 hk0) (Or.inr ⟨rfl, rfl, rfl⟩) rfl (Or.inl rfl) (fun σ2 hσ2 => ?_)
  replace hw := hw σ2 hσ2
  refine x_aload_n dX1_init_14 rfl 0 rfl ?_
  refine x_aload_nQ dX1_init_15 rfl 3 rfl ?_
  refine x_putRN (r := l3) (ci := 1) (k := 3) (f := 67) dX1_init_16 wF_X1_18 (Nat.le_of_ble_eq_true rfl) (Nat.le_of_ble_eq_true rfl) (xk_I hσ2 (xk_I hσ1 hk0)) (Or.inr ⟨rfl, rfl, rfl⟩) rfl rfl (fun σ3 hσ3 => ?_)
  replace hw := hw σ3 hσ3
  exact x_vret dX1_init_19 rfl ⟨rfl, hw⟩
-- PromiseWire$Message.answer(II)I
def wp_X1_answer (σ : xS) (a0 : Nat) (l1 : Int32) (l2 : Int32) (Q : Int32 → xS → Prop) : Prop := ∀ σ1, σ1 = xs_I σ 72 a0 l1 → (∀ σ2, σ2 = xs_I σ1 73 a0 l2 → (Q 0 σ2))
set_option maxRecDepth 100000 in
set_option maxHeartbeats 4000000 in
theorem ct_X1_answer {σ : xS} {a0 : Nat}  {l1 : Int32} {l2 : Int32} {Q : Int32 → xS → Prop} (hk0 : xh_k σ a0 = 2) (hw : wp_X1_answer σ a0 l1 l2 Q) : xCt M_X1_answer [.ref a0, .int l1, .int l2] σ (xqI (fun r σ2 => Q r σ2)) := by
  refine xCt_ofL (lv := [(0, .ref a0), (1, .int l1), (2, .int l2)]) pn_X1 (Nat.le_of_ble_eq_true rfl) rfl ?_
  unfold wp_X1_answer at hw
  refine x_aload_n dX1_answer_0 rfl 0 rfl ?_
  refine x_iload_n dX1_answer_1 rfl 1 rfl ?_
  refine x_putIN (ci := 1) (k := 8) (f := 72) dX1_answer_2 wF_X1_22 (Nat.le_of_ble_eq_true rfl) (Nat.le_of_ble_eq_true rfl) hk0 (Or.inl rfl) rfl (Or.inl rfl) (fun σ1 hσ1 => ?_)
  replace hw := hw σ1 hσ1
  refine x_aload_n dX1_answer_5 rfl 0 rfl ?_
  refine x_iload_n dX1_answer_6 rfl 2 rfl ?_
  refine x_putIN (ci := 1) (k := 9) (f := 73) dX1_answer_7 wF_X1_25 (Nat.le_of_ble_eq_true rfl) (Nat.le_of_ble_eq_true rfl) (xk_I hσ1 hk0) (Or.inl rfl) rfl (Or.inl rfl) (fun σ2 hσ2 => ?_)
  replace hw := hw σ2 hσ2
  refine x_iconst dX1_answer_10 cI_0 ?_
  exact x_iret dX1_answer_11 rfl ⟨0, rfl, hw⟩
-- PromiseWire$Message.breakByCut()V
def wb_X1_breakByCut_28 (Q : xS → Prop) (σ : xS) (a0 : Nat) : Prop := wp_X1_answer σ a0 3 1 (fun x1 σ2 => Q σ2)
set_option maxRecDepth 100000 in
set_option maxHeartbeats 4000000 in
theorem xb_X1_breakByCut_28 {Q : xS → Prop} {σ : xS} {a0 : Nat}  (hk0 : xh_k σ a0 = 2)  (hw : wb_X1_breakByCut_28 Q σ a0) : xX M_X1_breakByCut 28 [(0, .ref a0)] [] σ (xqV (fun σ2 => Q σ2)) := by
  unfold wb_X1_breakByCut_28 at hw
  refine x_aload_n dX1_breakByCut_28 rfl 0 rfl ?_
  refine x_iconst dX1_breakByCut_29 cI_3 ?_
  refine x_iconst dX1_breakByCut_30 cI_1 ?_
  refine x_callV (M2 := M_X1_answer) (As := [.int 3, .int 1]) (st := []) (ci := 1) (Nat.le_of_ble_eq_true rfl) hk0 rfl wM_X1_36 wI_X1_answer wS_X1_answer dX1_breakByCut_31 rfl ok_X1_answer ⟨(Nat.le_of_ble_eq_true rfl), (Nat.le_of_ble_eq_true rfl)⟩ (Nat.le_of_ble_eq_true rfl) (ct_X1_answer hk0 hw) (xqI.k (fun x1 σ2 hw2 => ?_))
  have hw := hw2
  refine x_pop dX1_breakByCut_34 rfl ?_
  exact x_vret dX1_breakByCut_35 rfl ⟨rfl, hw⟩
def wp_X1_breakByCut (σ : xS) (a0 : Nat) (Q : xS → Prop) : Prop := (xh_R σ 70 a0 = none → wb_X1_breakByCut_28 Q σ a0) ∧ (∀ a4, xh_R σ 70 a0 = some a4 → xh_k σ a4 = 4 ∧ (∀ σ7, σ7 = xs_I σ 198 a4 ((xh_I σ 198 a4) + (xh_I σ 66 a0)) → (∀ σ8, σ8 = xs_R σ7 70 a0 none → (wb_X1_breakByCut_28 Q σ8 a0))))
set_option maxRecDepth 100000 in
set_option maxHeartbeats 4000000 in
theorem ct_X1_breakByCut {σ : xS} {a0 : Nat}  {Q : xS → Prop} (hk0 : xh_k σ a0 = 2) (hw : wp_X1_breakByCut σ a0 Q) : xCt M_X1_breakByCut [.ref a0] σ (xqV (fun σ2 => Q σ2)) := by
  refine xCt_ofL (lv := [(0, .ref a0)]) pn_X1 (Nat.le_of_ble_eq_true rfl) rfl ?_
  unfold wp_X1_breakByCut at hw
  refine x_aload_n dX1_breakByCut_0 rfl 0 rfl ?_
  refine x_get (ci := 1) (k := 6) (v := va_rf (xh_R σ 70 a0)) dX1_breakByCut_1 wF_X1_28 (Nat.le_of_ble_eq_true rfl) (Nat.le_of_ble_eq_true rfl) hk0 rfl ?_
  refine x_ifnull 28 dX1_breakByCut_4 rfl (fun hn3 => ?_) (fun a4 hs5 => ?_)
  · replace hw := hw.1 hn3
    exact x_sub [0] rfl (xb_X1_breakByCut_28 hk0 hw)
  · replace hw := hw.2 a4 hs5
    refine x_aload_n dX1_breakByCut_7 rfl 0 rfl ?_
    refine x_get (ci := 1) (k := 6) (v := .ref a4) dX1_breakByCut_8 wF_X1_28 (Nat.le_of_ble_eq_true rfl) (Nat.le_of_ble_eq_true rfl) hk0 (congrArg va_rf hs5) ?_
    refine x_dup dX1_breakByCut_11 rfl ?_
    obtain ⟨hk6, hw⟩ := hw
    refine x_get (ci := 3) (k := 6) (v := .int (xh_I σ 198 a4)) dX1_breakByCut_12 wF_X1_31 (Nat.le_of_ble_eq_true rfl) (Nat.le_of_ble_eq_true rfl) hk6 rfl ?_
    refine x_aload_n dX1_breakByCut_15 rfl 0 rfl ?_
    refine x_get (ci := 1) (k := 2) (v := .int (xh_I σ 66 a0)) dX1_breakByCut_16 wF_X1_15 (Nat.le_of_ble_eq_true rfl) (Nat.le_of_ble_eq_true rfl) hk0 rfl ?_
    refine x_iadd dX1_breakByCut_19 ?_
    refine x_putIN (ci := 3) (k := 6) (f := 198) dX1_breakByCut_20 wF_X1_31 (Nat.le_of_ble_eq_true rfl) (Nat.le_of_ble_eq_true rfl) hk6 (Or.inl rfl) rfl (Or.inl rfl) (fun σ7 hσ7 => ?_)
    replace hw := hw σ7 hσ7
    refine x_aload_n dX1_breakByCut_23 rfl 0 rfl ?_
    refine x_null dX1_breakByCut_24 ?_
    refine x_putRN (r := none) (ci := 1) (k := 6) (f := 70) dX1_breakByCut_25 wF_X1_28 (Nat.le_of_ble_eq_true rfl) (Nat.le_of_ble_eq_true rfl) (xk_I hσ7 hk0) (Or.inl rfl) rfl rfl (fun σ8 hσ8 => ?_)
    replace hw := hw σ8 hσ8
    exact x_sub [0] rfl (xb_X1_breakByCut_28 (xk_R hσ8 (xk_I hσ7 hk0)) hw)
-- PromiseWire$Message.destination()I
def wb_X1_destination_34 (Q : Int32 → Prop) (σ : xS) (a0 : Nat) (s0 : Int32) : Prop := Q s0
set_option maxRecDepth 100000 in
set_option maxHeartbeats 4000000 in
theorem xb_X1_destination_34 {Q : Int32 → Prop} {σ : xS} {a0 : Nat}  {s0 : Int32} (hk0 : xh_k σ a0 = 2)  (hw : wb_X1_destination_34 Q σ a0 s0) : xX M_X1_destination 34 [(0, .ref a0)] [.int s0] σ (xqI (fun r σ2 => σ = σ2 ∧ Q r )) := by
  unfold wb_X1_destination_34 at hw
  exact x_iret dX1_destination_34 rfl ⟨s0, rfl, rfl, hw⟩
def wp_X1_destination (σ : xS) (a0 : Nat) (Q : Int32 → Prop) : Prop := (xh_R σ 68 a0 = none → (xh_R σ 69 a0 = none → wb_X1_destination_34 Q σ a0 (-9)) ∧ (∀ a5, xh_R σ 69 a0 = some a5 → xh_k σ a5 = 3 ∧ (wb_X1_destination_34 Q σ a0 (xh_I σ 130 a5)))) ∧ (∀ a2, xh_R σ 68 a0 = some a2 → xh_k σ a2 = 4 ∧ (Q (xh_I σ 193 a2)))
set_option maxRecDepth 100000 in
set_option maxHeartbeats 4000000 in
theorem ct_X1_destination {σ : xS} {a0 : Nat}  {Q : Int32 → Prop} (hk0 : xh_k σ a0 = 2) (hw : wp_X1_destination σ a0 Q) : xCt M_X1_destination [.ref a0] σ (xqI (fun r σ2 => σ = σ2 ∧ Q r )) := by
  refine xCt_ofL (lv := [(0, .ref a0)]) pn_X1 (Nat.le_of_ble_eq_true rfl) rfl ?_
  unfold wp_X1_destination at hw
  refine x_aload_n dX1_destination_0 rfl 0 rfl ?_
  refine x_get (ci := 1) (k := 4) (v := va_rf (xh_R σ 68 a0)) dX1_destination_1 wF_X1_40 (Nat.le_of_ble_eq_true rfl) (Nat.le_of_ble_eq_true rfl) hk0 rfl ?_
  refine x_ifnull 15 dX1_destination_4 rfl (fun hn1 => ?_) (fun a2 hs3 => ?_)
  · replace hw := hw.1 hn1
    refine x_aload_n dX1_destination_15 rfl 0 rfl ?_
    refine x_get (ci := 1) (k := 5) (v := va_rf (xh_R σ 69 a0)) dX1_destination_16 wF_X1_46 (Nat.le_of_ble_eq_true rfl) (Nat.le_of_ble_eq_true rfl) hk0 rfl ?_
    refine x_ifnonnull 27 dX1_destination_19 rfl (fun hn4 => ?_) (fun a5 hs6 => ?_)
    · replace hw := hw.1 hn4
      refine x_bipush dX1_destination_22 cB_m9 ?_
      refine x_goto 34 dX1_destination_24 rfl ?_
      exact x_sub [0] rfl (xb_X1_destination_34 hk0 hw)
    · replace hw := hw.2 a5 hs6
      refine x_aload_n dX1_destination_27 rfl 0 rfl ?_
      refine x_get (ci := 1) (k := 5) (v := .ref a5) dX1_destination_28 wF_X1_46 (Nat.le_of_ble_eq_true rfl) (Nat.le_of_ble_eq_true rfl) hk0 (congrArg va_rf hs6) ?_
      obtain ⟨hk7, hw⟩ := hw
      refine x_get (ci := 2) (k := 2) (v := .int (xh_I σ 130 a5)) dX1_destination_31 wF_X1_50 (Nat.le_of_ble_eq_true rfl) (Nat.le_of_ble_eq_true rfl) hk7 rfl ?_
      exact x_sub [0] rfl (xb_X1_destination_34 hk0 hw)
  · replace hw := hw.2 a2 hs3
    refine x_aload_n dX1_destination_7 rfl 0 rfl ?_
    refine x_get (ci := 1) (k := 4) (v := .ref a2) dX1_destination_8 wF_X1_40 (Nat.le_of_ble_eq_true rfl) (Nat.le_of_ble_eq_true rfl) hk0 (congrArg va_rf hs3) ?_
    obtain ⟨hk8, hw⟩ := hw
    refine x_get (ci := 3) (k := 1) (v := .int (xh_I σ 193 a2)) dX1_destination_11 wF_X1_43 (Nat.le_of_ble_eq_true rfl) (Nat.le_of_ble_eq_true rfl) hk8 rfl ?_
    exact x_iret dX1_destination_14 rfl ⟨(xh_I σ 193 a2), rfl, rfl, hw⟩
-- PromiseWire$Message.whatLetter()I
def wb_X1_whatLetter_21 (Q : Int32 → Prop) (σ : xS) (a0 : Nat) (s0 : Int32) : Prop := Q s0
set_option maxRecDepth 100000 in
set_option maxHeartbeats 4000000 in
theorem xb_X1_whatLetter_21 {Q : Int32 → Prop} {σ : xS} {a0 : Nat}  {s0 : Int32} (hk0 : xh_k σ a0 = 2)  (hw : wb_X1_whatLetter_21 Q σ a0 s0) : xX M_X1_whatLetter 21 [(0, .ref a0)] [.int s0] σ (xqI (fun r σ2 => σ = σ2 ∧ Q r )) := by
  unfold wb_X1_whatLetter_21 at hw
  exact x_iret dX1_whatLetter_21 rfl ⟨s0, rfl, rfl, hw⟩
def wp_X1_whatLetter (σ : xS) (a0 : Nat) (Q : Int32 → Prop) : Prop := ((xh_I σ 71 a0) = 0 → (xh_R σ 64 a0 = none → wb_X1_whatLetter_21 Q σ a0 2) ∧ (∀ a3, xh_R σ 64 a0 = some a3 → wb_X1_whatLetter_21 Q σ a0 0)) ∧ (¬ (xh_I σ 71 a0) = 0 → Q 1)
set_option maxRecDepth 100000 in
set_option maxHeartbeats 4000000 in
theorem ct_X1_whatLetter {σ : xS} {a0 : Nat}  {Q : Int32 → Prop} (hk0 : xh_k σ a0 = 2) (hw : wp_X1_whatLetter σ a0 Q) : xCt M_X1_whatLetter [.ref a0] σ (xqI (fun r σ2 => σ = σ2 ∧ Q r )) := by
  refine xCt_ofL (lv := [(0, .ref a0)]) pn_X1 (Nat.le_of_ble_eq_true rfl) rfl ?_
  unfold wp_X1_whatLetter at hw
  refine x_aload_n dX1_whatLetter_0 rfl 0 rfl ?_
  refine x_get (ci := 1) (k := 7) (v := .int (xh_I σ 71 a0)) dX1_whatLetter_1 wF_X1_55 (Nat.le_of_ble_eq_true rfl) (Nat.le_of_ble_eq_true rfl) hk0 rfl ?_
  refine x_if_eq 9 dX1_whatLetter_4 rfl (fun hc1 => ?_) (fun hc1 => ?_)
  · replace hw := hw.1 hc1
    refine x_aload_n dX1_whatLetter_9 rfl 0 rfl ?_
    refine x_get (ci := 1) (k := 0) (v := va_rf (xh_R σ 64 a0)) dX1_whatLetter_10 wF_X1_59 (Nat.le_of_ble_eq_true rfl) (Nat.le_of_ble_eq_true rfl) hk0 rfl ?_
    refine x_ifnonnull 20 dX1_whatLetter_13 rfl (fun hn2 => ?_) (fun a3 hs4 => ?_)
    · replace hw := hw.1 hn2
      refine x_iconst dX1_whatLetter_16 cI_2 ?_
      refine x_goto 21 dX1_whatLetter_17 rfl ?_
      exact x_sub [0] rfl (xb_X1_whatLetter_21 hk0 hw)
    · replace hw := hw.2 a3 hs4
      refine x_iconst dX1_whatLetter_20 cI_0 ?_
      exact x_sub [0] rfl (xb_X1_whatLetter_21 hk0 hw)
  · replace hw := hw.2 hc1
    refine x_iconst dX1_whatLetter_7 cI_1 ?_
    exact x_iret dX1_whatLetter_8 rfl ⟨1, rfl, rfl, hw⟩
-- PromiseWire$Promise.<init>(IIILPromiseWire$Message;)V
def wp_X2_init (σ : xS) (a0 : Nat) (l1 : Int32) (l2 : Int32) (l3 : Int32) (l4 : Nat) (Q : xS → Prop) : Prop := xh_n σ < xh_m σ ∧ ∀ σ3, σ3 = xs_new σ 0 → (wp_X0_init σ3 (xh_n σ) (∀ σ5, σ5 = xs_R σ3 132 a0 (some (xh_n σ)) → (∀ σ6, σ6 = xs_I σ5 128 a0 l1 → (∀ σ7, σ7 = xs_I σ6 129 a0 l2 → (∀ σ8, σ8 = xs_I σ7 130 a0 l3 → (∀ σ9, σ9 = xs_R σ8 131 a0 (some l4) → (Q σ9)))))))
set_option maxRecDepth 100000 in
set_option maxHeartbeats 4000000 in
theorem ct_X2_init {σ : xS} {a0 : Nat}  {l1 : Int32} {l2 : Int32} {l3 : Int32} {l4 : Nat} {Q : xS → Prop} (hk0 : xh_k σ a0 = 3) (hw : wp_X2_init σ a0 l1 l2 l3 l4 Q) : xCt M_X2_init [.ref a0, .int l1, .int l2, .int l3, .ref l4] σ (xqV (fun σ2 => Q σ2)) := by
  refine xCt_ofL (lv := [(0, .ref a0), (1, .int l1), (2, .int l2), (3, .int l3), (4, .ref l4)]) pn_X2 (Nat.le_of_ble_eq_true rfl) rfl ?_
  unfold wp_X2_init at hw
  refine x_aload_n dX2_init_0 rfl 0 rfl ?_
  refine x_objInit dX2_init_1 wO_X2_1 wI_obj wC_obj (Nat.le_of_ble_eq_true rfl) (Nat.le_of_ble_eq_true rfl) (Nat.le_of_ble_eq_true rfl) ?_
  refine x_aload_n dX2_init_4 rfl 0 rfl ?_
  refine x_fresh (fun hf1 => ?_)
  obtain ⟨hm2, hw⟩ := hw
  refine x_newN (ci := 0) dX2_init_5 (Nat.le_of_ble_eq_true rfl) wK_X2_7 wT_X0 wN_X0 hm2 (fun σ3 hσ3 => ?_)
  replace hw := hw σ3 hσ3
  refine x_dup dX2_init_8 rfl ?_
  refine x_callN (M2 := M_X0_init) (As := []) (st := [.ref (xh_n σ), .ref a0]) rfl rfl (fun U h => h.1.2.1) wI_X0_init dX2_init_9 rfl ok_X0_init ⟨(Nat.le_of_ble_eq_true rfl), (Nat.le_of_ble_eq_true rfl)⟩ (Nat.le_of_ble_eq_true rfl) (ct_X0_init (xk_self hσ3) hw) (xqV.k (fun τ4 hw2 => ?_))
  obtain ⟨he, hw⟩ := hw2
  subst he
  refine x_putRN (r := (some (xh_n σ))) (ci := 2) (k := 4) (f := 132) dX2_init_12 wF_X2_10 (Nat.le_of_ble_eq_true rfl) (Nat.le_of_ble_eq_true rfl) (xk_new hf1 hσ3 hk0) (Or.inr ⟨rfl, rfl, rfl⟩) rfl rfl (fun σ5 hσ5 => ?_)
  replace hw := hw σ5 hσ5
  refine x_aload_n dX2_init_15 rfl 0 rfl ?_
  refine x_iload_n dX2_init_16 rfl 1 rfl ?_
  refine x_putIN (ci := 2) (k := 0) (f := 128) dX2_init_17 wF_X2_16 (Nat.le_of_ble_eq_true rfl) (Nat.le_of_ble_eq_true rfl) (xk_R hσ5 (xk_new hf1 hσ3 hk0)) (Or.inr ⟨rfl, rfl, rfl⟩) rfl (Or.inl rfl) (fun σ6 hσ6 => ?_)
  replace hw := hw σ6 hσ6
  refine x_aload_n dX2_init_20 rfl 0 rfl ?_
  refine x_iload_n dX2_init_21 rfl 2 rfl ?_
  refine x_putIN (ci := 2) (k := 1) (f := 129) dX2_init_22 wF_X2_20 (Nat.le_of_ble_eq_true rfl) (Nat.le_of_ble_eq_true rfl) (xk_I hσ6 (xk_R hσ5 (xk_new hf1 hσ3 hk0))) (Or.inr ⟨rfl, rfl, rfl⟩) rfl (Or.inl rfl) (fun σ7 hσ7 => ?_)
  replace hw := hw σ7 hσ7
  refine x_aload_n dX2_init_25 rfl 0 rfl ?_
  refine x_iload_n dX2_init_26 rfl 3 rfl ?_
  refine x_putIN (ci := 2) (k := 2) (f := 130) dX2_init_27 wF_X2_23 (Nat.le_of_ble_eq_true rfl) (Nat.le_of_ble_eq_true rfl) (xk_I hσ7 (xk_I hσ6 (xk_R hσ5 (xk_new hf1 hσ3 hk0)))) (Or.inr ⟨rfl, rfl, rfl⟩) rfl (Or.inl rfl) (fun σ8 hσ8 => ?_)
  replace hw := hw σ8 hσ8
  refine x_aload_n dX2_init_30 rfl 0 rfl ?_
  refine x_aload dX2_init_31 4 rfl ?_
  refine x_putRN (r := (some l4)) (ci := 2) (k := 3) (f := 131) dX2_init_33 wF_X2_26 (Nat.le_of_ble_eq_true rfl) (Nat.le_of_ble_eq_true rfl) (xk_I hσ8 (xk_I hσ7 (xk_I hσ6 (xk_R hσ5 (xk_new hf1 hσ3 hk0))))) (Or.inr ⟨rfl, rfl, rfl⟩) rfl rfl (fun σ9 hσ9 => ?_)
  replace hw := hw σ9 hσ9
  exact x_vret dX2_init_36 rfl ⟨rfl, hw⟩
-- PromiseWire$Promise.isKnownIn(I)Z
def wb_X2_isKnownIn_21 (Q : Int32 → Prop) (σ : xS) (a0 : Nat) (s0 : Int32) : Prop := (s0 = 0 ∨ s0 = 1) ∧ Q s0
set_option maxRecDepth 100000 in
set_option maxHeartbeats 4000000 in
theorem xb_X2_isKnownIn_21 {Q : Int32 → Prop} {σ : xS} {a0 : Nat}  {s0 : Int32} (hk0 : xh_k σ a0 = 3)  (hw : wb_X2_isKnownIn_21 Q σ a0 s0) : xX M_X2_isKnownIn 21 [(0, .ref a0)] [.int s0] σ (xqI (fun r σ2 => σ = σ2 ∧ Q r )) := by
  unfold wb_X2_isKnownIn_21 at hw
  obtain ⟨hz1, hw⟩ := hw
  exact x_zret dX2_isKnownIn_21 rfl hz1 ⟨s0, rfl, rfl, hw⟩
def wb_X2_isKnownIn_16 (Q : Int32 → Prop) (σ : xS) (a0 : Nat) : Prop := wb_X2_isKnownIn_21 Q σ a0 1
set_option maxRecDepth 100000 in
set_option maxHeartbeats 4000000 in
theorem xb_X2_isKnownIn_16 {Q : Int32 → Prop} {σ : xS} {a0 : Nat}  (hk0 : xh_k σ a0 = 3)  (hw : wb_X2_isKnownIn_16 Q σ a0) : xX M_X2_isKnownIn 16 [(0, .ref a0)] [] σ (xqI (fun r σ2 => σ = σ2 ∧ Q r )) := by
  unfold wb_X2_isKnownIn_16 at hw
  refine x_iconst dX2_isKnownIn_16 cI_1 ?_
  refine x_goto 21 dX2_isKnownIn_17 rfl ?_
  exact x_sub [0] rfl (xb_X2_isKnownIn_21 hk0 hw)
def wp_X2_isKnownIn (σ : xS) (a0 : Nat) (l1 : Int32) (Q : Int32 → Prop) : Prop := (l1 = (xh_I σ 129 a0) → wb_X2_isKnownIn_16 Q σ a0) ∧ (¬ l1 = (xh_I σ 129 a0) → (l1 = (xh_I σ 130 a0) → wb_X2_isKnownIn_16 Q σ a0) ∧ (¬ l1 = (xh_I σ 130 a0) → wb_X2_isKnownIn_21 Q σ a0 0))
set_option maxRecDepth 100000 in
set_option maxHeartbeats 4000000 in
theorem ct_X2_isKnownIn {σ : xS} {a0 : Nat}  {l1 : Int32} {Q : Int32 → Prop} (hk0 : xh_k σ a0 = 3) (hw : wp_X2_isKnownIn σ a0 l1 Q) : xCt M_X2_isKnownIn [.ref a0, .int l1] σ (xqI (fun r σ2 => σ = σ2 ∧ Q r )) := by
  refine xCt_ofL (lv := [(0, .ref a0), (1, .int l1)]) pn_X2 (Nat.le_of_ble_eq_true rfl) rfl ?_
  unfold wp_X2_isKnownIn at hw
  refine x_iload_n dX2_isKnownIn_0 rfl 1 rfl ?_
  refine x_aload_n dX2_isKnownIn_1 rfl 0 rfl ?_
  refine x_get (ci := 2) (k := 1) (v := .int (xh_I σ 129 a0)) dX2_isKnownIn_2 wF_X2_20 (Nat.le_of_ble_eq_true rfl) (Nat.le_of_ble_eq_true rfl) hk0 rfl ?_
  refine x_icmp_eq 16 dX2_isKnownIn_5 rfl (fun hc2 => ?_) (fun hc2 => ?_)
  · replace hw := hw.1 hc2
    exact x_sub [0] rfl (xb_X2_isKnownIn_16 hk0 hw)
  · replace hw := hw.2 hc2
    refine x_iload_n dX2_isKnownIn_8 rfl 1 rfl ?_
    refine x_aload_n dX2_isKnownIn_9 rfl 0 rfl ?_
    refine x_get (ci := 2) (k := 2) (v := .int (xh_I σ 130 a0)) dX2_isKnownIn_10 wF_X2_23 (Nat.le_of_ble_eq_true rfl) (Nat.le_of_ble_eq_true rfl) hk0 rfl ?_
    refine x_icmp_ne 20 dX2_isKnownIn_13 rfl (fun hc3 => ?_) (fun hc3 => ?_)
    · replace hw := hw.2 hc3
      refine x_iconst dX2_isKnownIn_20 cI_0 ?_
      exact x_sub [0] rfl (xb_X2_isKnownIn_21 hk0 hw)
    · replace hw := hw.1 hc3
      exact x_sub [0] rfl (xb_X2_isKnownIn_16 hk0 hw)
-- PromiseWire$Promise.howIn(I)I
def wb_X2_howIn_19 (Q : Int32 → Prop) (σ : xS) (a0 : Nat) (s0 : Int32) : Prop := Q s0
set_option maxRecDepth 100000 in
set_option maxHeartbeats 4000000 in
theorem xb_X2_howIn_19 {Q : Int32 → Prop} {σ : xS} {a0 : Nat}  {s0 : Int32} (hk0 : xh_k σ a0 = 3)  (hw : wb_X2_howIn_19 Q σ a0 s0) : xX M_X2_howIn 19 [(0, .ref a0)] [.int s0] σ (xqI (fun r σ2 => σ = σ2 ∧ Q r )) := by
  unfold wb_X2_howIn_19 at hw
  exact x_iret dX2_howIn_19 rfl ⟨s0, rfl, rfl, hw⟩
def wp_X2_howIn (σ : xS) (a0 : Nat) (l1 : Int32) (Q : Int32 → Prop) : Prop := (l1 = (xh_I σ 130 a0) → wb_X2_howIn_19 Q σ a0 (xh_I σ 133 a0)) ∧ (¬ l1 = (xh_I σ 130 a0) → wb_X2_howIn_19 Q σ a0 (xh_I σ 135 a0))
set_option maxRecDepth 100000 in
set_option maxHeartbeats 4000000 in
theorem ct_X2_howIn {σ : xS} {a0 : Nat}  {l1 : Int32} {Q : Int32 → Prop} (hk0 : xh_k σ a0 = 3) (hw : wp_X2_howIn σ a0 l1 Q) : xCt M_X2_howIn [.ref a0, .int l1] σ (xqI (fun r σ2 => σ = σ2 ∧ Q r )) := by
  refine xCt_ofL (lv := [(0, .ref a0), (1, .int l1)]) pn_X2 (Nat.le_of_ble_eq_true rfl) rfl ?_
  unfold wp_X2_howIn at hw
  refine x_iload_n dX2_howIn_0 rfl 1 rfl ?_
  refine x_aload_n dX2_howIn_1 rfl 0 rfl ?_
  refine x_get (ci := 2) (k := 2) (v := .int (xh_I σ 130 a0)) dX2_howIn_2 wF_X2_23 (Nat.le_of_ble_eq_true rfl) (Nat.le_of_ble_eq_true rfl) hk0 rfl ?_
  refine x_icmp_ne 15 dX2_howIn_5 rfl (fun hc1 => ?_) (fun hc1 => ?_)
  · replace hw := hw.2 hc1
    refine x_aload_n dX2_howIn_15 rfl 0 rfl ?_
    refine x_get (ci := 2) (k := 7) (v := .int (xh_I σ 135 a0)) dX2_howIn_16 wF_X2_33 (Nat.le_of_ble_eq_true rfl) (Nat.le_of_ble_eq_true rfl) hk0 rfl ?_
    exact x_sub [0] rfl (xb_X2_howIn_19 hk0 hw)
  · replace hw := hw.1 hc1
    refine x_aload_n dX2_howIn_8 rfl 0 rfl ?_
    refine x_get (ci := 2) (k := 5) (v := .int (xh_I σ 133 a0)) dX2_howIn_9 wF_X2_30 (Nat.le_of_ble_eq_true rfl) (Nat.le_of_ble_eq_true rfl) hk0 rfl ?_
    refine x_goto 19 dX2_howIn_12 rfl ?_
    exact x_sub [0] rfl (xb_X2_howIn_19 hk0 hw)
-- PromiseWire$Promise.valueIn(I)I
def wb_X2_valueIn_19 (Q : Int32 → Prop) (σ : xS) (a0 : Nat) (s0 : Int32) : Prop := Q s0
set_option maxRecDepth 100000 in
set_option maxHeartbeats 4000000 in
theorem xb_X2_valueIn_19 {Q : Int32 → Prop} {σ : xS} {a0 : Nat}  {s0 : Int32} (hk0 : xh_k σ a0 = 3)  (hw : wb_X2_valueIn_19 Q σ a0 s0) : xX M_X2_valueIn 19 [(0, .ref a0)] [.int s0] σ (xqI (fun r σ2 => σ = σ2 ∧ Q r )) := by
  unfold wb_X2_valueIn_19 at hw
  exact x_iret dX2_valueIn_19 rfl ⟨s0, rfl, rfl, hw⟩
def wp_X2_valueIn (σ : xS) (a0 : Nat) (l1 : Int32) (Q : Int32 → Prop) : Prop := (l1 = (xh_I σ 130 a0) → wb_X2_valueIn_19 Q σ a0 (xh_I σ 134 a0)) ∧ (¬ l1 = (xh_I σ 130 a0) → wb_X2_valueIn_19 Q σ a0 (xh_I σ 136 a0))
set_option maxRecDepth 100000 in
set_option maxHeartbeats 4000000 in
theorem ct_X2_valueIn {σ : xS} {a0 : Nat}  {l1 : Int32} {Q : Int32 → Prop} (hk0 : xh_k σ a0 = 3) (hw : wp_X2_valueIn σ a0 l1 Q) : xCt M_X2_valueIn [.ref a0, .int l1] σ (xqI (fun r σ2 => σ = σ2 ∧ Q r )) := by
  refine xCt_ofL (lv := [(0, .ref a0), (1, .int l1)]) pn_X2 (Nat.le_of_ble_eq_true rfl) rfl ?_
  unfold wp_X2_valueIn at hw
  refine x_iload_n dX2_valueIn_0 rfl 1 rfl ?_
  refine x_aload_n dX2_valueIn_1 rfl 0 rfl ?_
  refine x_get (ci := 2) (k := 2) (v := .int (xh_I σ 130 a0)) dX2_valueIn_2 wF_X2_23 (Nat.le_of_ble_eq_true rfl) (Nat.le_of_ble_eq_true rfl) hk0 rfl ?_
  refine x_icmp_ne 15 dX2_valueIn_5 rfl (fun hc1 => ?_) (fun hc1 => ?_)
  · replace hw := hw.2 hc1
    refine x_aload_n dX2_valueIn_15 rfl 0 rfl ?_
    refine x_get (ci := 2) (k := 8) (v := .int (xh_I σ 136 a0)) dX2_valueIn_16 wF_X2_39 (Nat.le_of_ble_eq_true rfl) (Nat.le_of_ble_eq_true rfl) hk0 rfl ?_
    exact x_sub [0] rfl (xb_X2_valueIn_19 hk0 hw)
  · replace hw := hw.1 hc1
    refine x_aload_n dX2_valueIn_8 rfl 0 rfl ?_
    refine x_get (ci := 2) (k := 6) (v := .int (xh_I σ 134 a0)) dX2_valueIn_9 wF_X2_36 (Nat.le_of_ble_eq_true rfl) (Nat.le_of_ble_eq_true rfl) hk0 rfl ?_
    refine x_goto 19 dX2_valueIn_12 rfl ?_
    exact x_sub [0] rfl (xb_X2_valueIn_19 hk0 hw)
-- PromiseWire$Thing.<init>(IIIILPromiseWire$Thing;I)V
def wp_X3_init (σ : xS) (a0 : Nat) (l1 : Int32) (l2 : Int32) (l3 : Int32) (l4 : Int32) (l5 : Option Nat) (l6 : Int32) (Q : xS → Prop) : Prop := xh_n σ < xh_m σ ∧ ∀ σ3, σ3 = xs_new σ 0 → (wp_X0_init σ3 (xh_n σ) (∀ σ5, σ5 = xs_R σ3 197 a0 (some (xh_n σ)) → (∀ σ6, σ6 = xs_I σ5 192 a0 l1 → (∀ σ7, σ7 = xs_I σ6 193 a0 l2 → (∀ σ8, σ8 = xs_I σ7 194 a0 l3 → (∀ σ9, σ9 = xs_I σ8 198 a0 l4 → (∀ σ10, σ10 = xs_R σ9 195 a0 l5 → (∀ σ11, σ11 = xs_I σ10 196 a0 l6 → (Q σ11)))))))))
set_option maxRecDepth 100000 in
set_option maxHeartbeats 4000000 in
theorem ct_X3_init {σ : xS} {a0 : Nat}  {l1 : Int32} {l2 : Int32} {l3 : Int32} {l4 : Int32} {l5 : Option Nat} {l6 : Int32} {Q : xS → Prop} (hk0 : xh_k σ a0 = 4) (hw : wp_X3_init σ a0 l1 l2 l3 l4 l5 l6 Q) : xCt M_X3_init [.ref a0, .int l1, .int l2, .int l3, .int l4, va_rf l5, .int l6] σ (xqV (fun σ2 => Q σ2)) := by
  refine xCt_ofL (lv := [(0, .ref a0), (1, .int l1), (2, .int l2), (3, .int l3), (4, .int l4), (5, va_rf l5), (6, .int l6)]) pn_X3 (by simp [lg_sl, xcat, xcatI, xcatR, xcatL, xcatN] <;> decide) (by simp [lv_args, xcat, xcatI, xcatR, xcatL, xcatN]) ?_
  unfold wp_X3_init at hw
  refine x_aload_n dX3_init_0 rfl 0 rfl ?_
  refine x_objInit dX3_init_1 wO_X3_1 wI_obj wC_obj (Nat.le_of_ble_eq_true rfl) (Nat.le_of_ble_eq_true rfl) (Nat.le_of_ble_eq_true rfl) ?_
  refine x_aload_n dX3_init_4 rfl 0 rfl ?_
  refine x_fresh (fun hf1 => ?_)
  obtain ⟨hm2, hw⟩ := hw
  refine x_newN (ci := 0) dX3_init_5 (Nat.le_of_ble_eq_true rfl) wK_X3_7 wT_X0 wN_X0 hm2 (fun σ3 hσ3 => ?_)
  replace hw := hw σ3 hσ3
  refine x_dup dX3_init_8 rfl ?_
  refine x_callN (M2 := M_X0_init) (As := []) (st := [.ref (xh_n σ), .ref a0]) rfl rfl (fun U h => h.1.2.2.1) wI_X0_init dX3_init_9 rfl ok_X0_init ⟨(Nat.le_of_ble_eq_true rfl), (Nat.le_of_ble_eq_true rfl)⟩ (Nat.le_of_ble_eq_true rfl) (ct_X0_init (xk_self hσ3) hw) (xqV.k (fun τ4 hw2 => ?_))
  obtain ⟨he, hw⟩ := hw2
  subst he
  refine x_putRN (r := (some (xh_n σ))) (ci := 3) (k := 5) (f := 197) dX3_init_12 wF_X3_10 (Nat.le_of_ble_eq_true rfl) (Nat.le_of_ble_eq_true rfl) (xk_new hf1 hσ3 hk0) (Or.inr ⟨rfl, rfl, rfl⟩) rfl rfl (fun σ5 hσ5 => ?_)
  replace hw := hw σ5 hσ5
  refine x_aload_n dX3_init_15 rfl 0 rfl ?_
  refine x_iload_n dX3_init_16 rfl 1 rfl ?_
  refine x_putIN (ci := 3) (k := 0) (f := 192) dX3_init_17 wF_X3_16 (Nat.le_of_ble_eq_true rfl) (Nat.le_of_ble_eq_true rfl) (xk_R hσ5 (xk_new hf1 hσ3 hk0)) (Or.inr ⟨rfl, rfl, rfl⟩) rfl (Or.inl rfl) (fun σ6 hσ6 => ?_)
  replace hw := hw σ6 hσ6
  refine x_aload_n dX3_init_20 rfl 0 rfl ?_
  refine x_iload_n dX3_init_21 rfl 2 rfl ?_
  refine x_putIN (ci := 3) (k := 1) (f := 193) dX3_init_22 wF_X3_20 (Nat.le_of_ble_eq_true rfl) (Nat.le_of_ble_eq_true rfl) (xk_I hσ6 (xk_R hσ5 (xk_new hf1 hσ3 hk0))) (Or.inr ⟨rfl, rfl, rfl⟩) rfl (Or.inl rfl) (fun σ7 hσ7 => ?_)
  replace hw := hw σ7 hσ7
  refine x_aload_n dX3_init_25 rfl 0 rfl ?_
  refine x_iload_n dX3_init_26 rfl 3 rfl ?_
  refine x_putIN (ci := 3) (k := 2) (f := 194) dX3_init_27 wF_X3_23 (Nat.le_of_ble_eq_true rfl) (Nat.le_of_ble_eq_true rfl) (xk_I hσ7 (xk_I hσ6 (xk_R hσ5 (xk_new hf1 hσ3 hk0)))) (Or.inr ⟨rfl, rfl, rfl⟩) rfl (Or.inl rfl) (fun σ8 hσ8 => ?_)
  replace hw := hw σ8 hσ8
  refine x_aload_n dX3_init_30 rfl 0 rfl ?_
  refine x_iload dX3_init_31 4 rfl ?_
  refine x_putIN (ci := 3) (k := 6) (f := 198) dX3_init_33 wF_X3_26 (Nat.le_of_ble_eq_true rfl) (Nat.le_of_ble_eq_true rfl) (xk_I hσ8 (xk_I hσ7 (xk_I hσ6 (xk_R hσ5 (xk_new hf1 hσ3 hk0))))) (Or.inl rfl) rfl (Or.inl rfl) (fun σ9 hσ9 => ?_)
  replace hw := hw σ9 hσ9
  refine x_aload_n dX3_init_36 rfl 0 rfl ?_
  refine x_aloadQ dX3_init_37 5 rfl ?_
  refine x_putRN (r := l5) (ci := 3) (k := 3) (f := 195) dX3_init_39 wF_X3_29 (Nat.le_of_ble_eq_true rfl) (Nat.le_of_ble_eq_true rfl) (xk_I hσ9 (xk_I hσ8 (xk_I hσ7 (xk_I hσ6 (xk_R hσ5 (xk_new hf1 hσ3 hk0)))))) (Or.inr ⟨rfl, rfl, rfl⟩) rfl rfl (fun σ10 hσ10 => ?_)
  replace hw := hw σ10 hσ10
  refine x_aload_n dX3_init_42 rfl 0 rfl ?_
  refine x_iload dX3_init_43 6 rfl ?_
  refine x_putIN (ci := 3) (k := 4) (f := 196) dX3_init_45 wF_X3_33 (Nat.le_of_ble_eq_true rfl) (Nat.le_of_ble_eq_true rfl) (xk_R hσ10 (xk_I hσ9 (xk_I hσ8 (xk_I hσ7 (xk_I hσ6 (xk_R hσ5 (xk_new hf1 hσ3 hk0))))))) (Or.inr ⟨rfl, rfl, rfl⟩) rfl (Or.inl rfl) (fun σ11 hσ11 => ?_)
  replace hw := hw σ11 hσ11
  exact x_vret dX3_init_48 rfl ⟨rfl, hw⟩
-- PromiseWire$When.<init>(LPromiseWire$Promise;ILPromiseWire$Thing;)V
def wp_X4_init (σ : xS) (a0 : Nat) (l1 : Nat) (l2 : Int32) (l3 : Nat) (Q : xS → Prop) : Prop := ∀ σ1, σ1 = xs_R σ 256 a0 (some l1) → (∀ σ2, σ2 = xs_I σ1 257 a0 l2 → (∀ σ3, σ3 = xs_R σ2 258 a0 (some l3) → (Q σ3)))
set_option maxRecDepth 100000 in
set_option maxHeartbeats 4000000 in
theorem ct_X4_init {σ : xS} {a0 : Nat}  {l1 : Nat} {l2 : Int32} {l3 : Nat} {Q : xS → Prop} (hk0 : xh_k σ a0 = 5) (hw : wp_X4_init σ a0 l1 l2 l3 Q) : xCt M_X4_init [.ref a0, .ref l1, .int l2, .ref l3] σ (xqV (fun σ2 => Q σ2)) := by
  refine xCt_ofL (lv := [(0, .ref a0), (1, .ref l1), (2, .int l2), (3, .ref l3)]) pn_X4 (Nat.le_of_ble_eq_true rfl) rfl ?_
  unfold wp_X4_init at hw
  refine x_aload_n dX4_init_0 rfl 0 rfl ?_
  refine x_objInit dX4_init_1 wO_X4_1 wI_obj wC_obj (Nat.le_of_ble_eq_true rfl) (Nat.le_of_ble_eq_true rfl) (Nat.le_of_ble_eq_true rfl) ?_
  refine x_aload_n dX4_init_4 rfl 0 rfl ?_
  refine x_aload_n dX4_init_5 rfl 1 rfl ?_
  refine x_putRN (r := (some l1)) (ci := 4) (k := 0) (f := 256) dX4_init_6 wF_X4_7 (Nat.le_of_ble_eq_true rfl) (Nat.le_of_ble_eq_true rfl) hk0 (Or.inr ⟨rfl, rfl, rfl⟩) rfl rfl (fun σ1 hσ1 => ?_)
  replace hw := hw σ1 hσ1
  refine x_aload_n dX4_init_9 rfl 0 rfl ?_
  refine x_iload_n dX4_init_10 rfl 2 rfl ?_
  refine x_putIN (ci := 4) (k := 1) (f := 257) dX4_init_11 wF_X4_13 (Nat.le_of_ble_eq_true rfl) (Nat.le_of_ble_eq_true rfl) (xk_R hσ1 hk0) (Or.inr ⟨rfl, rfl, rfl⟩) rfl (Or.inl rfl) (fun σ2 hσ2 => ?_)
  replace hw := hw σ2 hσ2
  refine x_aload_n dX4_init_14 rfl 0 rfl ?_
  refine x_aload_n dX4_init_15 rfl 3 rfl ?_
  refine x_putRN (r := (some l3)) (ci := 4) (k := 2) (f := 258) dX4_init_16 wF_X4_17 (Nat.le_of_ble_eq_true rfl) (Nat.le_of_ble_eq_true rfl) (xk_I hσ2 (xk_R hσ1 hk0)) (Or.inr ⟨rfl, rfl, rfl⟩) rfl rfl (fun σ3 hσ3 => ?_)
  replace hw := hw σ3 hσ3
  exact x_vret dX4_init_19 rfl ⟨rfl, hw⟩
-- PromiseWire$Wire.<init>(II)V
def wp_X5_init (σ : xS) (a0 : Nat) (l1 : Int32) (l2 : Int32) (Q : xS → Prop) : Prop := xh_n σ < xh_m σ ∧ ∀ σ3, σ3 = xs_new σ 0 → (wp_X0_init σ3 (xh_n σ) (∀ σ5, σ5 = xs_R σ3 322 a0 (some (xh_n σ)) → (∀ σ6, σ6 = xs_I σ5 320 a0 l1 → (∀ σ7, σ7 = xs_I σ6 321 a0 l2 → (Q σ7)))))
set_option maxRecDepth 100000 in
set_option maxHeartbeats 4000000 in
theorem ct_X5_init {σ : xS} {a0 : Nat}  {l1 : Int32} {l2 : Int32} {Q : xS → Prop} (hk0 : xh_k σ a0 = 6) (hw : wp_X5_init σ a0 l1 l2 Q) : xCt M_X5_init [.ref a0, .int l1, .int l2] σ (xqV (fun σ2 => Q σ2)) := by
  refine xCt_ofL (lv := [(0, .ref a0), (1, .int l1), (2, .int l2)]) pn_X5 (Nat.le_of_ble_eq_true rfl) rfl ?_
  unfold wp_X5_init at hw
  refine x_aload_n dX5_init_0 rfl 0 rfl ?_
  refine x_objInit dX5_init_1 wO_X5_1 wI_obj wC_obj (Nat.le_of_ble_eq_true rfl) (Nat.le_of_ble_eq_true rfl) (Nat.le_of_ble_eq_true rfl) ?_
  refine x_aload_n dX5_init_4 rfl 0 rfl ?_
  refine x_fresh (fun hf1 => ?_)
  obtain ⟨hm2, hw⟩ := hw
  refine x_newN (ci := 0) dX5_init_5 (Nat.le_of_ble_eq_true rfl) wK_X5_7 wT_X0 wN_X0 hm2 (fun σ3 hσ3 => ?_)
  replace hw := hw σ3 hσ3
  refine x_dup dX5_init_8 rfl ?_
  refine x_callN (M2 := M_X0_init) (As := []) (st := [.ref (xh_n σ), .ref a0]) rfl rfl (fun U h => h.1.2.2.2) wI_X0_init dX5_init_9 rfl ok_X0_init ⟨(Nat.le_of_ble_eq_true rfl), (Nat.le_of_ble_eq_true rfl)⟩ (Nat.le_of_ble_eq_true rfl) (ct_X0_init (xk_self hσ3) hw) (xqV.k (fun τ4 hw2 => ?_))
  obtain ⟨he, hw⟩ := hw2
  subst he
  refine x_putRN (r := (some (xh_n σ))) (ci := 5) (k := 2) (f := 322) dX5_init_12 wF_X5_10 (Nat.le_of_ble_eq_true rfl) (Nat.le_of_ble_eq_true rfl) (xk_new hf1 hσ3 hk0) (Or.inr ⟨rfl, rfl, rfl⟩) rfl rfl (fun σ5 hσ5 => ?_)
  replace hw := hw σ5 hσ5
  refine x_aload_n dX5_init_15 rfl 0 rfl ?_
  refine x_iload_n dX5_init_16 rfl 1 rfl ?_
  refine x_putIN (ci := 5) (k := 0) (f := 320) dX5_init_17 wF_X5_16 (Nat.le_of_ble_eq_true rfl) (Nat.le_of_ble_eq_true rfl) (xk_R hσ5 (xk_new hf1 hσ3 hk0)) (Or.inr ⟨rfl, rfl, rfl⟩) rfl (Or.inl rfl) (fun σ6 hσ6 => ?_)
  replace hw := hw σ6 hσ6
  refine x_aload_n dX5_init_20 rfl 0 rfl ?_
  refine x_iload_n dX5_init_21 rfl 2 rfl ?_
  refine x_putIN (ci := 5) (k := 1) (f := 321) dX5_init_22 wF_X5_20 (Nat.le_of_ble_eq_true rfl) (Nat.le_of_ble_eq_true rfl) (xk_I hσ6 (xk_R hσ5 (xk_new hf1 hσ3 hk0))) (Or.inr ⟨rfl, rfl, rfl⟩) rfl (Or.inl rfl) (fun σ7 hσ7 => ?_)
  replace hw := hw σ7 hσ7
  exact x_vret dX5_init_25 rfl ⟨rfl, hw⟩
