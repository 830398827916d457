-- PromiseWire.ask(IIIIII)I
def wb_X6_ask_108 (Q : Int32 → xS → Prop) (σ : xS) (a0 : Nat) (l1 : Int32) (l4 : Int32) (l5 : Int32) (l7 : Option Nat) (l8 : Option Nat) (l9 : Option Nat) : Prop := ((xh_I σ 390 a0) < 100 → xh_n σ < xh_m σ ∧ ∀ σ4, σ4 = xs_new σ 1 → (wp_X1_init σ4 (xh_n σ) l4 l5 l9 (fun σ5 => xw6 σ5 a0 ∧ (xh_k σ5 (xh_n σ) = 2 ∧ ∀ σ7, σ7 = xs_R σ5 68 (xh_n σ) l7 → (∀ σ8, σ8 = xs_R σ7 69 (xh_n σ) l8 → (wp_X1_destination σ8 (xh_n σ) (fun x9 => xh_n σ8 < xh_m σ8 ∧ ∀ σ13, σ13 = xs_new σ8 2 → (wp_X2_init σ13 (xh_n σ8) (xh_I σ13 390 a0) l1 x9 (xh_n σ) (fun σ14 => xw6 σ14 a0 ∧ (xh_k σ14 (xh_n σ) = 2 ∧ ∀ σ16, σ16 = xs_R σ14 64 (xh_n σ) (some (xh_n σ8)) → (vp_in (xh_I σ16 390 a0) 100 ∧ xh_k σ16 (xh_n σ8) = 3 ∧ ∀ σ19, σ19 = xs_q σ16 (a0 + 2) (xh_I σ16 390 a0).toNatClampNeg (some (xh_n σ8)) → (∀ σ20, σ20 = xs_I σ19 390 a0 ((xh_I σ19 390 a0) + 1) → (wp_X6_send σ20 a0 (xh_n σ) l1 (fun σ21 => wp_X6_doAll σ21 a0 (fun σ22 => xh_k σ22 (xh_n σ8) = 3 ∧ (Q (xh_I σ22 128 (xh_n σ8)) σ22)))))))))))))))) ∧ (¬ (xh_I σ 390 a0) < 100 → Q (-3) σ)
set_option maxRecDepth 100000 in
set_option maxHeartbeats 4000000 in
theorem xb_X6_ask_108 {Q : Int32 → xS → Prop} {σ : xS} {a0 : Nat}  {l1 : Int32} {l4 : Int32} {l5 : Int32} {l7 : Option Nat} {l8 : Option Nat} {l9 : Option Nat} (hW : xw6 σ a0)  (hw : wb_X6_ask_108 Q σ a0 l1 l4 l5 l7 l8 l9) : xX M_X6_ask 108 [(0, .ref a0), (1, .int l1), (4, .int l4), (5, .int l5), (7, va_rf l7), (8, va_rf l8), (9, va_rf l9)] [] σ (xqI (fun r σ2 => xw6 σ2 a0 ∧ Q r σ2)) := by
  unfold wb_X6_ask_108 at hw
  refine x_aload_n dX6_ask_108 rfl 0 rfl ?_
  refine x_get (ci := 6) (k := 6) (v := .int (xh_I σ 390 a0)) dX6_ask_109 wF_X6_110 (Nat.le_of_ble_eq_true rfl) (Nat.le_of_ble_eq_true rfl) hW.1 rfl ?_
  refine x_aload_n dX6_ask_112 rfl 0 rfl ?_
  refine x_get (ci := 6) (k := 1) (v := .ref (a0 + 2)) dX6_ask_113 wF_X6_17 (Nat.le_of_ble_eq_true rfl) (Nat.le_of_ble_eq_true rfl) hW.1 (congrArg va_rf (w6r_2 hW)) ?_
  refine x_alenZ (t := 3) (v := 100) dX6_ask_116 (w6k_2 hW) (Nat.le_of_ble_eq_true rfl) (w6z_2 hW) rfl ?_
  refine x_icmp_lt 123 dX6_ask_117 rfl (fun hc1 => ?_) (fun hc1 => ?_)
  · replace hw := hw.1 hc1
    refine x_fresh (fun hf2 => ?_)
    obtain ⟨hm3, hw⟩ := hw
    refine x_newN (ci := 1) dX6_ask_123 (Nat.le_of_ble_eq_true rfl) wK_X6_113 wT_X1 wN_X1 hm3 (fun σ4 hσ4 => ?_)
    replace hw := hw σ4 hσ4
    refine x_dup dX6_ask_126 rfl ?_
    refine x_iload dX6_ask_127 2 rfl ?_
    refine x_iload dX6_ask_129 3 rfl ?_
    refine x_aloadQ dX6_ask_131 6 rfl ?_
    refine x_callI (M2 := M_X1_init) (As := [.int l4, .int l5, va_rf l9]) (st := [.ref (xh_n σ)]) rfl rfl wM_X6_115 wI_X1_init dX6_ask_133 rfl ok_X1_init ⟨(Nat.le_of_ble_eq_true rfl), (Nat.le_of_ble_eq_true rfl)⟩ (Nat.le_of_ble_eq_true rfl) (ct_X1_init (xk_self hσ4) hw) (xqV.k (fun σ5 hw2 => ?_))
    obtain ⟨hW, hw⟩ := hw2
    refine x_astore (i := 10) [(10, .ref (xh_n σ)), (0, .ref a0), (1, .int l1), (4, .int l4), (5, .int l5), (7, va_rf l7), (8, va_rf l8), (9, va_rf l9)] dX6_ask_136 (Nat.le_of_ble_eq_true rfl) (by simp [xcat, xcatI, xcatR, xcatL, xcatN]) ?_
    refine x_aload dX6_ask_138 0 rfl ?_
    refine x_aloadQ dX6_ask_140 5 rfl ?_
    obtain ⟨hk6, hw⟩ := hw
    refine x_putRN (r := l7) (ci := 1) (k := 4) (f := 68) dX6_ask_142 wF_X6_118 (Nat.le_of_ble_eq_true rfl) (Nat.le_of_ble_eq_true rfl) hk6 (Or.inl rfl) rfl rfl (fun σ7 hσ7 => ?_)
    replace hw := hw σ7 hσ7
    refine x_aload dX6_ask_145 0 rfl ?_
    refine x_aloadQ dX6_ask_147 6 rfl ?_
    refine x_putRN (r := l8) (ci := 1) (k := 5) (f := 69) dX6_ask_149 wF_X6_121 (Nat.le_of_ble_eq_true rfl) (Nat.le_of_ble_eq_true rfl) (xk_R hσ7 hk6) (Or.inl rfl) rfl rfl (fun σ8 hσ8 => ?_)
    replace hw := hw σ8 hσ8
    refine x_aload dX6_ask_152 0 rfl ?_
    refine x_callV (M2 := M_X1_destination) (As := []) (st := []) (ci := 1) (Nat.le_of_ble_eq_true rfl) (xk_R hσ8 (xk_R hσ7 hk6)) rfl wM_X6_125 wI_X1_destination wS_X1_destination dX6_ask_154 rfl ok_X1_destination ⟨(Nat.le_of_ble_eq_true rfl), (Nat.le_of_ble_eq_true rfl)⟩ (Nat.le_of_ble_eq_true rfl) (ct_X1_destination (xk_R hσ8 (xk_R hσ7 hk6)) hw) (xqI.k (fun x9 τ10 hw2 => ?_))
    obtain ⟨he, hw⟩ := hw2
    subst he
    refine x_istore [(11, .int x9), (10, .ref (xh_n σ)), (0, .ref a0), (1, .int l1), (4, .int l4), (5, .int l5), (7, va_rf l7), (8, va_rf l8), (9, va_rf l9)] dX6_ask_157 (Nat.le_of_ble_eq_true rfl) rfl ?_
    refine x_fresh (fun hf11 => ?_)
    obtain ⟨hm12, hw⟩ := hw
    refine x_newN (ci := 2) dX6_ask_159 (Nat.le_of_ble_eq_true rfl) wK_X6_15 wT_X2 wN_X2 hm12 (fun σ13 hσ13 => ?_)
    replace hw := hw σ13 hσ13
    refine x_dup dX6_ask_162 rfl ?_
    refine x_aload_n dX6_ask_163 rfl 2 rfl ?_
    have hW := (xw6_new hf11 hσ13 (xw6_R (by decide) hσ8 (xw6_R (by decide) hσ7 hW)))
    refine x_get (ci := 6) (k := 6) (v := .int (xh_I σ13 390 a0)) dX6_ask_164 wF_X6_110 (Nat.le_of_ble_eq_true rfl) (Nat.le_of_ble_eq_true rfl) hW.1 rfl ?_
    refine x_iload_n dX6_ask_167 rfl 3 rfl ?_
    refine x_iload dX6_ask_168 0 rfl ?_
    refine x_aload dX6_ask_170 1 rfl ?_
    refine x_callI (M2 := M_X2_init) (As := [.int (xh_I σ13 390 a0), .int l1, .int x9, .ref (xh_n σ)]) (st := [.ref (xh_n σ8)]) rfl rfl wM_X6_129 wI_X2_init dX6_ask_172 rfl ok_X2_init ⟨(Nat.le_of_ble_eq_true rfl), (Nat.le_of_ble_eq_true rfl)⟩ (Nat.le_of_ble_eq_true rfl) (ct_X2_init (xk_self hσ13) hw) (xqV.k (fun σ14 hw2 => ?_))
    obtain ⟨hW, hw⟩ := hw2
    refine x_astore [(12, .ref (xh_n σ8)), (11, .int x9), (10, .ref (xh_n σ)), (0, .ref a0), (1, .int l1), (4, .int l4), (5, .int l5), (7, va_rf l7), (8, va_rf l8), (9, va_rf l9)] dX6_ask_175 (Nat.le_of_ble_eq_true rfl) rfl ?_
    refine x_aload dX6_ask_177 2 rfl ?_
    refine x_aload dX6_ask_179 0 rfl ?_
    obtain ⟨hk15, hw⟩ := hw
    refine x_putRN (r := (some (xh_n σ8))) (ci := 1) (k := 0) (f := 64) dX6_ask_181 wF_X6_132 (Nat.le_of_ble_eq_true rfl) (Nat.le_of_ble_eq_true rfl) hk15 (Or.inl rfl) rfl rfl (fun σ16 hσ16 => ?_)
    replace hw := hw σ16 hσ16
    refine x_aload_n dX6_ask_184 rfl 3 rfl ?_
    have hW := (xw6_R (by decide) hσ16 hW)
    refine x_get (ci := 6) (k := 1) (v := .ref (a0 + 2)) dX6_ask_185 wF_X6_17 (Nat.le_of_ble_eq_true rfl) (Nat.le_of_ble_eq_true rfl) hW.1 (congrArg va_rf (w6r_2 hW)) ?_
    refine x_aload_n dX6_ask_188 rfl 3 rfl ?_
    refine x_get (ci := 6) (k := 6) (v := .int (xh_I σ16 390 a0)) dX6_ask_189 wF_X6_110 (Nat.le_of_ble_eq_true rfl) (Nat.le_of_ble_eq_true rfl) hW.1 rfl ?_
    refine x_aload dX6_ask_192 0 rfl ?_
    obtain ⟨hv17, hw⟩ := hw
    obtain ⟨hk18, hw⟩ := hw
    refine x_aastN (t := 1) dX6_ask_194 (w6k_2 hW) (Nat.le_of_ble_eq_true rfl) hk18 (w6z_2 hW) hv17 (fun σ19 hσ19 => ?_)
    replace hw := hw σ19 hσ19
    refine x_aload_n dX6_ask_195 rfl 3 rfl ?_
    refine x_dup dX6_ask_196 rfl ?_
    have hW := (xw6_q hσ19 hW)
    refine x_get (ci := 6) (k := 6) (v := .int (xh_I σ19 390 a0)) dX6_ask_197 wF_X6_110 (Nat.le_of_ble_eq_true rfl) (Nat.le_of_ble_eq_true rfl) hW.1 rfl ?_
    refine x_iconst dX6_ask_200 cI_1 ?_
    refine x_iadd dX6_ask_201 ?_
    refine x_putIN (ci := 6) (k := 6) (f := 390) dX6_ask_202 wF_X6_110 (Nat.le_of_ble_eq_true rfl) (Nat.le_of_ble_eq_true rfl) hW.1 (Or.inl rfl) rfl (Or.inl rfl) (fun σ20 hσ20 => ?_)
    replace hw := hw σ20 hσ20
    refine x_aload_n dX6_ask_205 rfl 3 rfl ?_
    refine x_aload dX6_ask_206 2 rfl ?_
    refine x_iload_n dX6_ask_208 rfl 4 rfl ?_
    have hW := (xw6_I hσ20 hW)
    refine x_callV (M2 := M_X6_send) (As := [.ref (xh_n σ), .int l1]) (st := []) (ci := 6) (Nat.le_of_ble_eq_true rfl) hW.1 rfl wM_X6_135 wI_X6_send wS_X6_send dX6_ask_209 rfl ok_X6_send ⟨(Nat.le_of_ble_eq_true rfl), (Nat.le_of_ble_eq_true rfl)⟩ (Nat.le_of_ble_eq_true rfl) (ct_X6_send hW hw) (xqV.k (fun σ21 hw2 => ?_))
    obtain ⟨hW, hw⟩ := hw2
    refine x_aload_n dX6_ask_212 rfl 3 rfl ?_
    refine x_callV (M2 := M_X6_doAll) (As := []) (st := []) (ci := 6) (Nat.le_of_ble_eq_true rfl) hW.1 rfl wM_X6_78 wI_X6_doAll wS_X6_doAll dX6_ask_213 rfl ok_X6_doAll ⟨(Nat.le_of_ble_eq_true rfl), (Nat.le_of_ble_eq_true rfl)⟩ (Nat.le_of_ble_eq_true rfl) (ct_X6_doAll hW hw) (xqV.k (fun σ22 hw2 => ?_))
    obtain ⟨hW, hw⟩ := hw2
    refine x_aload dX6_ask_216 0 rfl ?_
    obtain ⟨hk23, hw⟩ := hw
    refine x_get (ci := 2) (k := 0) (v := .int (xh_I σ22 128 (xh_n σ8))) dX6_ask_218 wF_X6_139 (Nat.le_of_ble_eq_true rfl) (Nat.le_of_ble_eq_true rfl) hk23 rfl ?_
    exact x_iret dX6_ask_221 rfl ⟨(xh_I σ22 128 (xh_n σ8)), rfl, hW, hw⟩
  · replace hw := hw.2 hc1
    refine x_bipush dX6_ask_120 cB_m3 ?_
    exact x_iret dX6_ask_122 rfl ⟨(-3), rfl, hW, hw⟩
def wb_X6_ask_91 (Q : Int32 → xS → Prop) (σ : xS) (a0 : Nat) (l1 : Int32) (l4 : Int32) (l5 : Int32) (l7 : Option Nat) (l8 : Option Nat) (l9 : Option Nat) : Prop := (l8 = none → wb_X6_ask_108 Q σ a0 l1 l4 l5 l7 l8 l9) ∧ (∀ a25, l8 = some a25 → xh_k σ a25 = 3 ∧ wp_X2_isKnownIn σ a25 l1 (fun x28 => (x28 = 0 → Q (-2) σ) ∧ (¬ x28 = 0 → wb_X6_ask_108 Q σ a0 l1 l4 l5 l7 (some a25) l9)))
set_option maxRecDepth 100000 in
set_option maxHeartbeats 4000000 in
theorem xb_X6_ask_91 {Q : Int32 → xS → Prop} {σ : xS} {a0 : Nat}  {l1 : Int32} {l4 : Int32} {l5 : Int32} {l7 : Option Nat} {l8 : Option Nat} {l9 : Option Nat} (hW : xw6 σ a0)  (hw : wb_X6_ask_91 Q σ a0 l1 l4 l5 l7 l8 l9) : xX M_X6_ask 91 [(0, .ref a0), (1, .int l1), (4, .int l4), (5, .int l5), (7, va_rf l7), (8, va_rf l8), (9, va_rf l9)] [] σ (xqI (fun r σ2 => xw6 σ2 a0 ∧ Q r σ2)) := by
  unfold wb_X6_ask_91 at hw
  refine x_aloadQ dX6_ask_91 5 rfl ?_
  refine x_ifnull 108 dX6_ask_93 rfl (fun hn24 => ?_) (fun a25 hs26 => ?_)
  · replace hw := hw.1 hn24
    exact x_sub [0, 1, 2, 3, 4, 5, 6] rfl (xb_X6_ask_108 hW hw)
  · replace hw := hw.2 a25 hs26
    refine x_lvS 5 (lv2 := [(0, .ref a0), (1, .int l1), (4, .int l4), (5, .int l5), (7, va_rf l7), (8, .ref a25), (9, va_rf l9)]) rfl hs26 rfl ?_
    refine x_aload dX6_ask_96 5 rfl ?_
    refine x_iload_n dX6_ask_98 rfl 1 rfl ?_
    obtain ⟨hk27, hw⟩ := hw
    refine x_callV (M2 := M_X2_isKnownIn) (As := [.int l1]) (st := []) (ci := 2) (Nat.le_of_ble_eq_true rfl) hk27 rfl wM_X6_107 wI_X2_isKnownIn wS_X2_isKnownIn dX6_ask_99 rfl ok_X2_isKnownIn ⟨(Nat.le_of_ble_eq_true rfl), (Nat.le_of_ble_eq_true rfl)⟩ (Nat.le_of_ble_eq_true rfl) (ct_X2_isKnownIn hk27 hw) (xqI.k (fun x28 τ29 hw2 => ?_))
    obtain ⟨he, hw⟩ := hw2
    subst he
    refine x_if_ne 108 dX6_ask_102 rfl (fun hc30 => ?_) (fun hc30 => ?_)
    · replace hw := hw.2 hc30
      exact x_sub [0, 1, 2, 3, 4, 5, 6] rfl (xb_X6_ask_108 hW hw)
    · replace hw := hw.1 hc30
      refine x_bipush dX6_ask_105 cB_m2 ?_
      exact x_iret dX6_ask_107 rfl ⟨(-2), rfl, hW, hw⟩
def wb_X6_ask_89 (Q : Int32 → xS → Prop) (σ : xS) (a0 : Nat) : Prop := Q (-1) σ
set_option maxRecDepth 100000 in
set_option maxHeartbeats 4000000 in
theorem xb_X6_ask_89 {Q : Int32 → xS → Prop} {σ : xS} {a0 : Nat}  (hW : xw6 σ a0)  (hw : wb_X6_ask_89 Q σ a0) : xX M_X6_ask 89 [(0, .ref a0)] [] σ (xqI (fun r σ2 => xw6 σ2 a0 ∧ Q r σ2)) := by
  unfold wb_X6_ask_89 at hw
  refine x_iconst dX6_ask_89 cI_m1 ?_
  exact x_iret dX6_ask_90 rfl ⟨(-1), rfl, hW, hw⟩
def wb_X6_ask_66 (Q : Int32 → xS → Prop) (σ : xS) (a0 : Nat) (l1 : Int32) (l4 : Int32) (l5 : Int32) (l7 : Option Nat) (l8 : Option Nat) (l9 : Option Nat) : Prop := (l4 < 0 → wb_X6_ask_89 Q σ a0) ∧ (¬ l4 < 0 → ((7 : Int32) < l4 → wb_X6_ask_89 Q σ a0) ∧ (¬ (7 : Int32) < l4 → (l4 = 4 → (l9 = none → wb_X6_ask_89 Q σ a0) ∧ (∀ a35, l9 = some a35 → wb_X6_ask_91 Q σ a0 l1 l4 l5 l7 l8 (some a35))) ∧ (¬ l4 = 4 → wb_X6_ask_91 Q σ a0 l1 l4 l5 l7 l8 l9)))
set_option maxRecDepth 100000 in
set_option maxHeartbeats 4000000 in
theorem xb_X6_ask_66 {Q : Int32 → xS → Prop} {σ : xS} {a0 : Nat}  {l1 : Int32} {l4 : Int32} {l5 : Int32} {l7 : Option Nat} {l8 : Option Nat} {l9 : Option Nat} (hW : xw6 σ a0)  (hw : wb_X6_ask_66 Q σ a0 l1 l4 l5 l7 l8 l9) : xX M_X6_ask 66 [(0, .ref a0), (1, .int l1), (4, .int l4), (5, .int l5), (7, va_rf l7), (8, va_rf l8), (9, va_rf l9)] [] σ (xqI (fun r σ2 => xw6 σ2 a0 ∧ Q r σ2)) := by
  unfold wb_X6_ask_66 at hw
  refine x_iload dX6_ask_66 2 rfl ?_
  refine x_if_lt 89 dX6_ask_68 rfl (fun hc31 => ?_) (fun hc31 => ?_)
  · replace hw := hw.1 hc31
    exact x_sub [0] rfl (xb_X6_ask_89 hW hw)
  · replace hw := hw.2 hc31
    refine x_iload dX6_ask_71 2 rfl ?_
    refine x_bipush dX6_ask_73 cB_7 ?_
    refine x_icmp_gt 89 dX6_ask_75 rfl (fun hc32 => ?_) (fun hc32 => ?_)
    · replace hw := hw.1 hc32
      exact x_sub [0] rfl (xb_X6_ask_89 hW hw)
    · replace hw := hw.2 hc32
      refine x_iload dX6_ask_78 2 rfl ?_
      refine x_iconst dX6_ask_80 cI_4 ?_
      refine x_icmp_ne 91 dX6_ask_81 rfl (fun hc33 => ?_) (fun hc33 => ?_)
      · replace hw := hw.2 hc33
        exact x_sub [0, 1, 2, 3, 4, 5, 6] rfl (xb_X6_ask_91 hW hw)
      · replace hw := hw.1 hc33
        refine x_aloadQ dX6_ask_84 6 rfl ?_
        refine x_ifnonnull 91 dX6_ask_86 rfl (fun hn34 => ?_) (fun a35 hs36 => ?_)
        · replace hw := hw.1 hn34
          exact x_sub [0] rfl (xb_X6_ask_89 hW hw)
        · replace hw := hw.2 a35 hs36
          refine x_lvS 6 (lv2 := [(0, .ref a0), (1, .int l1), (4, .int l4), (5, .int l5), (7, va_rf l7), (8, va_rf l8), (9, .ref a35)]) rfl hs36 rfl ?_
          exact x_sub [0, 1, 2, 3, 4, 5, 6] rfl (xb_X6_ask_91 hW hw)
def wb_X6_ask_47 (Q : Int32 → xS → Prop) (σ : xS) (a0 : Nat) (l1 : Int32) (l4 : Int32) (l5 : Int32) (l7 : Option Nat) (l8 : Option Nat) (s0 : Option Nat) : Prop := wp_X6_isHouse σ l1 (fun x37 => (x37 = 0 → wb_X6_ask_89 Q σ a0) ∧ (¬ x37 = 0 → (l7 = none → (l8 = none → wb_X6_ask_89 Q σ a0) ∧ (∀ a44, l8 = some a44 → wb_X6_ask_66 Q σ a0 l1 l4 l5 l7 (some a44) s0)) ∧ (∀ a41, l7 = some a41 → wb_X6_ask_66 Q σ a0 l1 l4 l5 (some a41) l8 s0)))
set_option maxRecDepth 100000 in
set_option maxHeartbeats 4000000 in
theorem xb_X6_ask_47 {Q : Int32 → xS → Prop} {σ : xS} {a0 : Nat}  {l1 : Int32} {l4 : Int32} {l5 : Int32} {l7 : Option Nat} {l8 : Option Nat} {s0 : Option Nat} (hW : xw6 σ a0)  (hw : wb_X6_ask_47 Q σ a0 l1 l4 l5 l7 l8 s0) : xX M_X6_ask 47 [(0, .ref a0), (1, .int l1), (4, .int l4), (5, .int l5), (7, va_rf l7), (8, va_rf l8)] [va_rf s0] σ (xqI (fun r σ2 => xw6 σ2 a0 ∧ Q r σ2)) := by
  unfold wb_X6_ask_47 at hw
  refine x_astoreQ (i := 9) [(9, va_rf s0), (0, .ref a0), (1, .int l1), (4, .int l4), (5, .int l5), (7, va_rf l7), (8, va_rf l8)] dX6_ask_47 (Nat.le_of_ble_eq_true rfl) (by simp [xcat, xcatI, xcatR, xcatL, xcatN]) ?_
  refine x_iload_n dX6_ask_49 rfl 2 rfl ?_
  refine x_callS (M2 := M_X6_isHouse) (As := [.int l1]) (st := []) wM_X6_43 wZ_X6_isHouse dX6_ask_50 rfl ok_X6_isHouse ⟨(Nat.le_of_ble_eq_true rfl), (Nat.le_of_ble_eq_true rfl)⟩ (Nat.le_of_ble_eq_true rfl) (ct_X6_isHouse hw) (xqI.k (fun x37 τ38 hw2 => ?_))
  obtain ⟨he, hw⟩ := hw2
  subst he
  refine x_if_eq 89 dX6_ask_53 rfl (fun hc39 => ?_) (fun hc39 => ?_)
  · replace hw := hw.1 hc39
    exact x_sub [1] rfl (xb_X6_ask_89 hW hw)
  · replace hw := hw.2 hc39
    refine x_aloadQ dX6_ask_56 5 rfl ?_
    refine x_ifnonnull 66 dX6_ask_58 rfl (fun hn40 => ?_) (fun a41 hs42 => ?_)
    · replace hw := hw.1 hn40
      refine x_aloadQ dX6_ask_61 6 rfl ?_
      refine x_ifnull 89 dX6_ask_63 rfl (fun hn43 => ?_) (fun a44 hs45 => ?_)
      · replace hw := hw.1 hn43
        exact x_sub [1] rfl (xb_X6_ask_89 hW hw)
      · replace hw := hw.2 a44 hs45
        refine x_lvS 6 (lv2 := [(9, va_rf s0), (0, .ref a0), (1, .int l1), (4, .int l4), (5, .int l5), (7, va_rf l7), (8, .ref a44)]) rfl hs45 rfl ?_
        exact x_sub [1, 2, 3, 4, 5, 6, 0] rfl (xb_X6_ask_66 hW hw)
    · replace hw := hw.2 a41 hs42
      refine x_lvS 5 (lv2 := [(9, va_rf s0), (0, .ref a0), (1, .int l1), (4, .int l4), (5, .int l5), (7, .ref a41), (8, va_rf l8)]) rfl hs42 rfl ?_
      exact x_sub [1, 2, 3, 4, 5, 6, 0] rfl (xb_X6_ask_66 hW hw)
def wb_X6_ask_29 (Q : Int32 → xS → Prop) (σ : xS) (a0 : Nat) (l1 : Int32) (l4 : Int32) (l5 : Int32) (l6 : Int32) (l7 : Option Nat) (s0 : Option Nat) : Prop := (l4 = 4 → wp_X6_thingAt σ a0 l6 (fun x47 => wb_X6_ask_47 Q σ a0 l1 l4 l5 l7 s0 x47)) ∧ (¬ l4 = 4 → wb_X6_ask_47 Q σ a0 l1 l4 l5 l7 s0 none)
set_option maxRecDepth 100000 in
set_option maxHeartbeats 4000000 in
theorem xb_X6_ask_29 {Q : Int32 → xS → Prop} {σ : xS} {a0 : Nat}  {l1 : Int32} {l4 : Int32} {l5 : Int32} {l6 : Int32} {l7 : Option Nat} {s0 : Option Nat} (hW : xw6 σ a0)  (hw : wb_X6_ask_29 Q σ a0 l1 l4 l5 l6 l7 s0) : xX M_X6_ask 29 [(0, .ref a0), (1, .int l1), (4, .int l4), (5, .int l5), (6, .int l6), (7, va_rf l7)] [va_rf s0] σ (xqI (fun r σ2 => xw6 σ2 a0 ∧ Q r σ2)) := by
  unfold wb_X6_ask_29 at hw
  refine x_astoreQ (i := 8) [(8, va_rf s0), (0, .ref a0), (1, .int l1), (4, .int l4), (5, .int l5), (6, .int l6), (7, va_rf l7)] dX6_ask_29 (Nat.le_of_ble_eq_true rfl) (by simp [xcat, xcatI, xcatR, xcatL, xcatN]) ?_
  refine x_iload dX6_ask_31 3 rfl ?_
  refine x_iconst dX6_ask_33 cI_4 ?_
  refine x_icmp_ne 46 dX6_ask_34 rfl (fun hc46 => ?_) (fun hc46 => ?_)
  · replace hw := hw.2 hc46
    refine x_null dX6_ask_46 ?_
    exact x_sub [1, 2, 3, 4, 6, 0] rfl (xb_X6_ask_47 hW hw)
  · replace hw := hw.1 hc46
    refine x_aload_n dX6_ask_37 rfl 1 rfl ?_
    refine x_iload dX6_ask_38 5 rfl ?_
    refine x_callV (M2 := M_X6_thingAt) (As := [.int l6]) (st := []) (ci := 6) (Nat.le_of_ble_eq_true rfl) hW.1 rfl wM_X6_55 wI_X6_thingAt wS_X6_thingAt dX6_ask_40 rfl ok_X6_thingAt ⟨(Nat.le_of_ble_eq_true rfl), (Nat.le_of_ble_eq_true rfl)⟩ (Nat.le_of_ble_eq_true rfl) (ct_X6_thingAt hW hw) (xqR.k (fun x47 τ48 hw2 => ?_))
    obtain ⟨he, hw⟩ := hw2
    subst he
    refine x_goto 47 dX6_ask_43 rfl ?_
    exact x_sub [1, 2, 3, 4, 6, 0] rfl (xb_X6_ask_47 hW hw)
def wb_X6_ask_13 (Q : Int32 → xS → Prop) (σ : xS) (a0 : Nat) (l1 : Int32) (l2 : Int32) (l3 : Int32) (l4 : Int32) (l5 : Int32) (l6 : Int32) (s0 : Option Nat) : Prop := (l2 = 1 → wp_X6_promiseAt σ a0 l3 (fun x50 => wb_X6_ask_29 Q σ a0 l1 l4 l5 l6 s0 x50)) ∧ (¬ l2 = 1 → wb_X6_ask_29 Q σ a0 l1 l4 l5 l6 s0 none)
set_option maxRecDepth 100000 in
set_option maxHeartbeats 4000000 in
theorem xb_X6_ask_13 {Q : Int32 → xS → Prop} {σ : xS} {a0 : Nat}  {l1 : Int32} {l2 : Int32} {l3 : Int32} {l4 : Int32} {l5 : Int32} {l6 : Int32} {s0 : Option Nat} (hW : xw6 σ a0)  (hw : wb_X6_ask_13 Q σ a0 l1 l2 l3 l4 l5 l6 s0) : xX M_X6_ask 13 [(0, .ref a0), (1, .int l1), (2, .int l2), (3, .int l3), (4, .int l4), (5, .int l5), (6, .int l6)] [va_rf s0] σ (xqI (fun r σ2 => xw6 σ2 a0 ∧ Q r σ2)) := by
  unfold wb_X6_ask_13 at hw
  refine x_astoreQ [(7, va_rf s0), (0, .ref a0), (1, .int l1), (2, .int l2), (3, .int l3), (4, .int l4), (5, .int l5), (6, .int l6)] dX6_ask_13 (Nat.le_of_ble_eq_true rfl) rfl ?_
  refine x_iload_n dX6_ask_15 rfl 3 rfl ?_
  refine x_iconst dX6_ask_16 cI_1 ?_
  refine x_icmp_ne 28 dX6_ask_17 rfl (fun hc49 => ?_) (fun hc49 => ?_)
  · replace hw := hw.2 hc49
    refine x_null dX6_ask_28 ?_
    exact x_sub [1, 2, 5, 6, 7, 0] rfl (xb_X6_ask_29 hW hw)
  · replace hw := hw.1 hc49
    refine x_aload_n dX6_ask_20 rfl 1 rfl ?_
    refine x_iload_n dX6_ask_21 rfl 4 rfl ?_
    refine x_callV (M2 := M_X6_promiseAt) (As := [.int l3]) (st := []) (ci := 6) (Nat.le_of_ble_eq_true rfl) hW.1 rfl wM_X6_103 wI_X6_promiseAt wS_X6_promiseAt dX6_ask_22 rfl ok_X6_promiseAt ⟨(Nat.le_of_ble_eq_true rfl), (Nat.le_of_ble_eq_true rfl)⟩ (Nat.le_of_ble_eq_true rfl) (ct_X6_promiseAt hW hw) (xqR.k (fun x50 τ51 hw2 => ?_))
    obtain ⟨he, hw⟩ := hw2
    subst he
    refine x_goto 29 dX6_ask_25 rfl ?_
    exact x_sub [1, 2, 5, 6, 7, 0] rfl (xb_X6_ask_29 hW hw)
def wp_X6_ask (σ : xS) (a0 : Nat) (l1 : Int32) (l2 : Int32) (l3 : Int32) (l4 : Int32) (l5 : Int32) (l6 : Int32) (Q : Int32 → xS → Prop) : Prop := (l2 = 0 → wp_X6_thingAt σ a0 l3 (fun x53 => wb_X6_ask_13 Q σ a0 l1 l2 l3 l4 l5 l6 x53)) ∧ (¬ l2 = 0 → wb_X6_ask_13 Q σ a0 l1 l2 l3 l4 l5 l6 none)
set_option maxRecDepth 100000 in
set_option maxHeartbeats 4000000 in
theorem ct_X6_ask {σ : xS} {a0 : Nat}  {l1 : Int32} {l2 : Int32} {l3 : Int32} {l4 : Int32} {l5 : Int32} {l6 : Int32} {Q : Int32 → xS → Prop} (hW : xw6 σ a0) (hw : wp_X6_ask σ a0 l1 l2 l3 l4 l5 l6 Q) : xCt M_X6_ask [.ref a0, .int l1, .int l2, .int l3, .int l4, .int l5, .int l6] σ (xqI (fun r σ2 => xw6 σ2 a0 ∧ Q r σ2)) := by
  refine xCt_ofL (lv := [(0, .ref a0), (1, .int l1), (2, .int l2), (3, .int l3), (4, .int l4), (5, .int l5), (6, .int l6)]) pn_X6 (Nat.le_of_ble_eq_true rfl) rfl ?_
  unfold wp_X6_ask at hw
  refine x_iload_n dX6_ask_0 rfl 2 rfl ?_
  refine x_if_ne 12 dX6_ask_1 rfl (fun hc52 => ?_) (fun hc52 => ?_)
  · replace hw := hw.2 hc52
    refine x_null dX6_ask_12 ?_
    exact x_sub [0, 1, 2, 3, 4, 5, 6] rfl (xb_X6_ask_13 hW hw)
  · replace hw := hw.1 hc52
    refine x_aload_n dX6_ask_4 rfl 0 rfl ?_
    refine x_iload_n dX6_ask_5 rfl 3 rfl ?_
    refine x_callV (M2 := M_X6_thingAt) (As := [.int l3]) (st := []) (ci := 6) (Nat.le_of_ble_eq_true rfl) hW.1 rfl wM_X6_55 wI_X6_thingAt wS_X6_thingAt dX6_ask_6 rfl ok_X6_thingAt ⟨(Nat.le_of_ble_eq_true rfl), (Nat.le_of_ble_eq_true rfl)⟩ (Nat.le_of_ble_eq_true rfl) (ct_X6_thingAt hW hw) (xqR.k (fun x53 τ54 hw2 => ?_))
    obtain ⟨he, hw⟩ := hw2
    subst he
    refine x_goto 13 dX6_ask_9 rfl ?_
    exact x_sub [0, 1, 2, 3, 4, 5, 6] rfl (xb_X6_ask_13 hW hw)
-- PromiseWire.when(III)I
def wb_X6_when_119 (Q : Int32 → xS → Prop) (σ : xS) (a0 : Nat) : Prop := Q (xh_I σ 391 a0) σ
set_option maxRecDepth 100000 in
set_option maxHeartbeats 4000000 in
theorem xb_X6_when_119 {Q : Int32 → xS → Prop} {σ : xS} {a0 : Nat}  (hW : xw6 σ a0)  (hw : wb_X6_when_119 Q σ a0) : xX M_X6_when 119 [(0, .ref a0)] [] σ (xqI (fun r σ2 => xw6 σ2 a0 ∧ Q r σ2)) := by
  unfold wb_X6_when_119 at hw
  refine x_aload_n dX6_when_119 rfl 0 rfl ?_
  refine x_get (ci := 6) (k := 7) (v := .int (xh_I σ 391 a0)) dX6_when_120 wF_X6_140 (Nat.le_of_ble_eq_true rfl) (Nat.le_of_ble_eq_true rfl) hW.1 rfl ?_
  exact x_iret dX6_when_123 rfl ⟨(xh_I σ 391 a0), rfl, hW, hw⟩
def wb_X6_when_40 (Q : Int32 → xS → Prop) (σ : xS) (a0 : Nat) : Prop := Q (-1) σ
set_option maxRecDepth 100000 in
set_option maxHeartbeats 4000000 in
theorem xb_X6_when_40 {Q : Int32 → xS → Prop} {σ : xS} {a0 : Nat}  (hW : xw6 σ a0)  (hw : wb_X6_when_40 Q σ a0) : xX M_X6_when 40 [(0, .ref a0)] [] σ (xqI (fun r σ2 => xw6 σ2 a0 ∧ Q r σ2)) := by
  unfold wb_X6_when_40 at hw
  refine x_iconst dX6_when_40 cI_m1 ?_
  exact x_iret dX6_when_41 rfl ⟨(-1), rfl, hW, hw⟩
def wp_X6_when (σ : xS) (a0 : Nat) (l1 : Int32) (l2 : Int32) (l3 : Int32) (Q : Int32 → xS → Prop) : Prop := wp_X6_promiseAt σ a0 l2 (fun x1 => wp_X6_thingAt σ a0 l3 (fun x3 => wp_X6_isHouse σ l1 (fun x5 => (x5 = 0 → wb_X6_when_40 Q σ a0) ∧ (¬ x5 = 0 → (x1 = none → wb_X6_when_40 Q σ a0) ∧ (∀ a9, x1 = some a9 → (x3 = none → wb_X6_when_40 Q σ a0) ∧ (∀ a12, x3 = some a12 → xh_k σ a12 = 4 ∧ (((xh_I σ 193 a12) = l1 → xh_k σ a9 = 3 ∧ wp_X2_isKnownIn σ a9 l1 (fun x17 => (x17 = 0 → Q (-2) σ) ∧ (¬ x17 = 0 → ((xh_I σ 391 a0) < 40 → xh_n σ < xh_m σ ∧ ∀ σ23, σ23 = xs_new σ 4 → (wp_X4_init σ23 (xh_n σ) a9 l1 a12 (fun σ24 => xw6 σ24 a0 ∧ (vp_in (xh_I σ24 391 a0) 40 ∧ xh_k σ24 (xh_n σ) = 5 ∧ ∀ σ27, σ27 = xs_q σ24 (a0 + 3) (xh_I σ24 391 a0).toNatClampNeg (some (xh_n σ)) → (∀ σ28, σ28 = xs_I σ27 391 a0 ((xh_I σ27 391 a0) + 1) → (xh_k σ28 a9 = 3 ∧ wp_X2_howIn σ28 a9 l1 (fun x30 => (x30 = 0 → wb_X6_when_119 Q σ28 a0) ∧ (¬ x30 = 0 → wp_X6_postWhen σ28 a0 (xh_n σ) (fun σ33 => wb_X6_when_119 Q σ33 a0))))))))) ∧ (¬ (xh_I σ 391 a0) < 40 → Q (-3) σ)))) ∧ (¬ (xh_I σ 193 a12) = l1 → wb_X6_when_40 Q σ a0))))))))
set_option maxRecDepth 100000 in
set_option maxHeartbeats 4000000 in
theorem ct_X6_when {σ : xS} {a0 : Nat}  {l1 : Int32} {l2 : Int32} {l3 : Int32} {Q : Int32 → xS → Prop} (hW : xw6 σ a0) (hw : wp_X6_when σ a0 l1 l2 l3 Q) : xCt M_X6_when [.ref a0, .int l1, .int l2, .int l3] σ (xqI (fun r σ2 => xw6 σ2 a0 ∧ Q r σ2)) := by
  refine xCt_ofL (lv := [(0, .ref a0), (1, .int l1), (2, .int l2), (3, .int l3)]) pn_X6 (Nat.le_of_ble_eq_true rfl) rfl ?_
  unfold wp_X6_when at hw
  refine x_aload_n dX6_when_0 rfl 0 rfl ?_
  refine x_iload_n dX6_when_1 rfl 2 rfl ?_
  refine x_callV (M2 := M_X6_promiseAt) (As := [.int l2]) (st := []) (ci := 6) (Nat.le_of_ble_eq_true rfl) hW.1 rfl wM_X6_103 wI_X6_promiseAt wS_X6_promiseAt dX6_when_2 rfl ok_X6_promiseAt ⟨(Nat.le_of_ble_eq_true rfl), (Nat.le_of_ble_eq_true rfl)⟩ (Nat.le_of_ble_eq_true rfl) (ct_X6_promiseAt hW hw) (xqR.k (fun x1 τ2 hw2 => ?_))
  obtain ⟨he, hw⟩ := hw2
  subst he
  refine x_astoreQ [(4, va_rf x1), (0, .ref a0), (1, .int l1), (2, .int l2), (3, .int l3)] dX6_when_5 (Nat.le_of_ble_eq_true rfl) rfl ?_
  refine x_aload_n dX6_when_7 rfl 1 rfl ?_
  refine x_iload_n dX6_when_8 rfl 4 rfl ?_
  refine x_callV (M2 := M_X6_thingAt) (As := [.int l3]) (st := []) (ci := 6) (Nat.le_of_ble_eq_true rfl) hW.1 rfl wM_X6_55 wI_X6_thingAt wS_X6_thingAt dX6_when_9 rfl ok_X6_thingAt ⟨(Nat.le_of_ble_eq_true rfl), (Nat.le_of_ble_eq_true rfl)⟩ (Nat.le_of_ble_eq_true rfl) (ct_X6_thingAt hW hw) (xqR.k (fun x3 τ4 hw2 => ?_))
  obtain ⟨he, hw⟩ := hw2
  subst he
  refine x_astoreQ (i := 5) [(5, va_rf x3), (4, va_rf x1), (0, .ref a0), (1, .int l1), (2, .int l2), (3, .int l3)] dX6_when_12 (Nat.le_of_ble_eq_true rfl) (by simp [xcat, xcatI, xcatR, xcatL, xcatN]) ?_
  refine x_iload_n dX6_when_14 rfl 3 rfl ?_
  refine x_callS (M2 := M_X6_isHouse) (As := [.int l1]) (st := []) wM_X6_43 wZ_X6_isHouse dX6_when_15 rfl ok_X6_isHouse ⟨(Nat.le_of_ble_eq_true rfl), (Nat.le_of_ble_eq_true rfl)⟩ (Nat.le_of_ble_eq_true rfl) (ct_X6_isHouse hw) (xqI.k (fun x5 τ6 hw2 => ?_))
  obtain ⟨he, hw⟩ := hw2
  subst he
  refine x_if_eq 40 dX6_when_18 rfl (fun hc7 => ?_) (fun hc7 => ?_)
  · replace hw := hw.1 hc7
    exact x_sub [2] rfl (xb_X6_when_40 hW hw)
  · replace hw := hw.2 hc7
    refine x_aloadQ dX6_when_21 1 rfl ?_
    refine x_ifnull 40 dX6_when_23 rfl (fun hn8 => ?_) (fun a9 hs10 => ?_)
    · replace hw := hw.1 hn8
      exact x_sub [2] rfl (xb_X6_when_40 hW hw)
    · replace hw := hw.2 a9 hs10
      refine x_lvS 1 (lv2 := [(5, va_rf x3), (4, .ref a9), (0, .ref a0), (1, .int l1), (2, .int l2), (3, .int l3)]) rfl hs10 rfl ?_
      refine x_aloadQ dX6_when_26 0 rfl ?_
      refine x_ifnull 40 dX6_when_28 rfl (fun hn11 => ?_) (fun a12 hs13 => ?_)
      · replace hw := hw.1 hn11
        exact x_sub [2] rfl (xb_X6_when_40 hW hw)
      · replace hw := hw.2 a12 hs13
        refine x_lvS 0 (lv2 := [(5, .ref a12), (4, .ref a9), (0, .ref a0), (1, .int l1), (2, .int l2), (3, .int l3)]) rfl hs13 rfl ?_
        refine x_aload dX6_when_31 0 rfl ?_
        obtain ⟨hk14, hw⟩ := hw
        refine x_get (ci := 3) (k := 1) (v := .int (xh_I σ 193 a12)) dX6_when_33 wF_X6_81 (Nat.le_of_ble_eq_true rfl) (Nat.le_of_ble_eq_true rfl) hk14 rfl ?_
        refine x_iload_n dX6_when_36 rfl 3 rfl ?_
        refine x_icmp_eq 42 dX6_when_37 rfl (fun hc15 => ?_) (fun hc15 => ?_)
        · replace hw := hw.1 hc15
          refine x_aload dX6_when_42 1 rfl ?_
          refine x_iload_n dX6_when_44 rfl 3 rfl ?_
          obtain ⟨hk16, hw⟩ := hw
          refine x_callV (M2 := M_X2_isKnownIn) (As := [.int l1]) (st := []) (ci := 2) (Nat.le_of_ble_eq_true rfl) hk16 rfl wM_X6_107 wI_X2_isKnownIn wS_X2_isKnownIn dX6_when_45 rfl ok_X2_isKnownIn ⟨(Nat.le_of_ble_eq_true rfl), (Nat.le_of_ble_eq_true rfl)⟩ (Nat.le_of_ble_eq_true rfl) (ct_X2_isKnownIn hk16 hw) (xqI.k (fun x17 τ18 hw2 => ?_))
          obtain ⟨he, hw⟩ := hw2
          subst he
          refine x_if_ne 54 dX6_when_48 rfl (fun hc19 => ?_) (fun hc19 => ?_)
          · replace hw := hw.2 hc19
            refine x_aload_n dX6_when_54 rfl 2 rfl ?_
            refine x_get (ci := 6) (k := 7) (v := .int (xh_I σ 391 a0)) dX6_when_55 wF_X6_140 (Nat.le_of_ble_eq_true rfl) (Nat.le_of_ble_eq_true rfl) hW.1 rfl ?_
            refine x_aload_n dX6_when_58 rfl 2 rfl ?_
            refine x_get (ci := 6) (k := 2) (v := .ref (a0 + 3)) dX6_when_59 wF_X6_23 (Nat.le_of_ble_eq_true rfl) (Nat.le_of_ble_eq_true rfl) hW.1 (congrArg va_rf (w6r_3 hW)) ?_
            refine x_alenZ (t := 4) (v := 40) dX6_when_62 (w6k_3 hW) (Nat.le_of_ble_eq_true rfl) (w6z_3 hW) rfl ?_
            refine x_icmp_lt 69 dX6_when_63 rfl (fun hc20 => ?_) (fun hc20 => ?_)
            · replace hw := hw.1 hc20
              refine x_fresh (fun hf21 => ?_)
              obtain ⟨hm22, hw⟩ := hw
              refine x_newN (ci := 4) dX6_when_69 (Nat.le_of_ble_eq_true rfl) wK_X6_21 wT_X4 wN_X4 hm22 (fun σ23 hσ23 => ?_)
              replace hw := hw σ23 hσ23
              refine x_dup dX6_when_72 rfl ?_
              refine x_aload dX6_when_73 1 rfl ?_
              refine x_iload_n dX6_when_75 rfl 3 rfl ?_
              refine x_aload dX6_when_76 0 rfl ?_
              refine x_callI (M2 := M_X4_init) (As := [.ref a9, .int l1, .ref a12]) (st := [.ref (xh_n σ)]) rfl rfl wM_X6_143 wI_X4_init dX6_when_78 rfl ok_X4_init ⟨(Nat.le_of_ble_eq_true rfl), (Nat.le_of_ble_eq_true rfl)⟩ (Nat.le_of_ble_eq_true rfl) (ct_X4_init (xk_self hσ23) hw) (xqV.k (fun σ24 hw2 => ?_))
              obtain ⟨hW, hw⟩ := hw2
              refine x_astore [(6, .ref (xh_n σ)), (5, .ref a12), (4, .ref a9), (0, .ref a0), (1, .int l1), (2, .int l2), (3, .int l3)] dX6_when_81 (Nat.le_of_ble_eq_true rfl) rfl ?_
              refine x_aload_n dX6_when_83 rfl 3 rfl ?_
              refine x_get (ci := 6) (k := 2) (v := .ref (a0 + 3)) dX6_when_84 wF_X6_23 (Nat.le_of_ble_eq_true rfl) (Nat.le_of_ble_eq_true rfl) hW.1 (congrArg va_rf (w6r_3 hW)) ?_
              refine x_aload_n dX6_when_87 rfl 3 rfl ?_
              refine x_get (ci := 6) (k := 7) (v := .int (xh_I σ24 391 a0)) dX6_when_88 wF_X6_140 (Nat.le_of_ble_eq_true rfl) (Nat.le_of_ble_eq_true rfl) hW.1 rfl ?_
              refine x_aload dX6_when_91 0 rfl ?_
              obtain ⟨hv25, hw⟩ := hw
              obtain ⟨hk26, hw⟩ := hw
              refine x_aastN (t := 2) dX6_when_93 (w6k_3 hW) (Nat.le_of_ble_eq_true rfl) hk26 (w6z_3 hW) hv25 (fun σ27 hσ27 => ?_)
              replace hw := hw σ27 hσ27
              refine x_aload_n dX6_when_94 rfl 3 rfl ?_
              refine x_dup dX6_when_95 rfl ?_
              have hW := (xw6_q hσ27 hW)
              refine x_get (ci := 6) (k := 7) (v := .int (xh_I σ27 391 a0)) dX6_when_96 wF_X6_140 (Nat.le_of_ble_eq_true rfl) (Nat.le_of_ble_eq_true rfl) hW.1 rfl ?_
              refine x_iconst dX6_when_99 cI_1 ?_
              refine x_iadd dX6_when_100 ?_
              refine x_putIN (ci := 6) (k := 7) (f := 391) dX6_when_101 wF_X6_140 (Nat.le_of_ble_eq_true rfl) (Nat.le_of_ble_eq_true rfl) hW.1 (Or.inl rfl) rfl (Or.inl rfl) (fun σ28 hσ28 => ?_)
              replace hw := hw σ28 hσ28
              refine x_aload dX6_when_104 2 rfl ?_
              refine x_iload_n dX6_when_106 rfl 4 rfl ?_
              obtain ⟨hk29, hw⟩ := hw
              refine x_callV (M2 := M_X2_howIn) (As := [.int l1]) (st := []) (ci := 2) (Nat.le_of_ble_eq_true rfl) hk29 rfl wM_X6_146 wI_X2_howIn wS_X2_howIn dX6_when_107 rfl ok_X2_howIn ⟨(Nat.le_of_ble_eq_true rfl), (Nat.le_of_ble_eq_true rfl)⟩ (Nat.le_of_ble_eq_true rfl) (ct_X2_howIn hk29 hw) (xqI.k (fun x30 τ31 hw2 => ?_))
              obtain ⟨he, hw⟩ := hw2
              subst he
              refine x_if_eq 119 dX6_when_110 rfl (fun hc32 => ?_) (fun hc32 => ?_)
              · replace hw := hw.1 hc32
                have hW := (xw6_I hσ28 hW)
                exact x_sub [3] rfl (xb_X6_when_119 hW hw)
              · replace hw := hw.2 hc32
                refine x_aload_n dX6_when_113 rfl 3 rfl ?_
                refine x_aload dX6_when_114 0 rfl ?_
                have hW := (xw6_I hσ28 hW)
                refine x_callV (M2 := M_X6_postWhen) (As := [.ref (xh_n σ)]) (st := []) (ci := 6) (Nat.le_of_ble_eq_true rfl) hW.1 rfl wM_X6_150 wI_X6_postWhen wS_X6_postWhen dX6_when_116 rfl ok_X6_postWhen ⟨(Nat.le_of_ble_eq_true rfl), (Nat.le_of_ble_eq_true rfl)⟩ (Nat.le_of_ble_eq_true rfl) (ct_X6_postWhen hW hw) (xqV.k (fun σ33 hw2 => ?_))
                obtain ⟨hW, hw⟩ := hw2
                exact x_sub [3] rfl (xb_X6_when_119 hW hw)
            · replace hw := hw.2 hc20
              refine x_bipush dX6_when_66 cB_m3 ?_
              exact x_iret dX6_when_68 rfl ⟨(-3), rfl, hW, hw⟩
          · replace hw := hw.1 hc19
            refine x_bipush dX6_when_51 cB_m2 ?_
            exact x_iret dX6_when_53 rfl ⟨(-2), rfl, hW, hw⟩
        · replace hw := hw.2 hc15
          exact x_sub [2] rfl (xb_X6_when_40 hW hw)
-- PromiseWire.state(III)I
def wb_X6_state_61 (Q : Int32 → Prop) (σ : xS) (a0 : Nat) (s0 : Int32) : Prop := Q s0
set_option maxRecDepth 100000 in
set_option maxHeartbeats 4000000 in
theorem xb_X6_state_61 {Q : Int32 → Prop} {σ : xS} {a0 : Nat}  {s0 : Int32} (hW : xw6 σ a0)  (hw : wb_X6_state_61 Q σ a0 s0) : xX M_X6_state 61 [(0, .ref a0)] [.int s0] σ (xqI (fun r σ2 => σ = σ2 ∧ Q r )) := by
  unfold wb_X6_state_61 at hw
  exact x_iret dX6_state_61 rfl ⟨s0, rfl, rfl, hw⟩
def wb_X6_state_28 (Q : Int32 → Prop) (σ : xS) (a0 : Nat) : Prop := Q (-1)
set_option maxRecDepth 100000 in
set_option maxHeartbeats 4000000 in
theorem xb_X6_state_28 {Q : Int32 → Prop} {σ : xS} {a0 : Nat}  (hW : xw6 σ a0)  (hw : wb_X6_state_28 Q σ a0) : xX M_X6_state 28 [(0, .ref a0)] [] σ (xqI (fun r σ2 => σ = σ2 ∧ Q r )) := by
  unfold wb_X6_state_28 at hw
  refine x_iconst dX6_state_28 cI_m1 ?_
  exact x_iret dX6_state_29 rfl ⟨(-1), rfl, rfl, hw⟩
def wp_X6_state (σ : xS) (a0 : Nat) (l1 : Int32) (l2 : Int32) (l3 : Int32) (Q : Int32 → Prop) : Prop := wp_X6_promiseAt σ a0 l1 (fun x1 => (x1 = none → wb_X6_state_28 Q σ a0) ∧ (∀ a4, x1 = some a4 → wp_X6_isHouse σ l2 (fun x6 => (x6 = 0 → wb_X6_state_28 Q σ a0) ∧ (¬ x6 = 0 → (l3 < 0 → wb_X6_state_28 Q σ a0) ∧ (¬ l3 < 0 → (l3 ≤ 1 → xh_k σ a4 = 3 ∧ wp_X2_isKnownIn σ a4 l2 (fun x12 => (x12 = 0 → Q (-2)) ∧ (¬ x12 = 0 → (l3 = 0 → wp_X2_howIn σ a4 l2 (fun x18 => wb_X6_state_61 Q σ a0 x18)) ∧ (¬ l3 = 0 → wp_X2_valueIn σ a4 l2 (fun x16 => wb_X6_state_61 Q σ a0 x16))))) ∧ (¬ l3 ≤ 1 → wb_X6_state_28 Q σ a0))))))
set_option maxRecDepth 100000 in
set_option maxHeartbeats 4000000 in
theorem ct_X6_state {σ : xS} {a0 : Nat}  {l1 : Int32} {l2 : Int32} {l3 : Int32} {Q : Int32 → Prop} (hW : xw6 σ a0) (hw : wp_X6_state σ a0 l1 l2 l3 Q) : xCt M_X6_state [.ref a0, .int l1, .int l2, .int l3] σ (xqI (fun r σ2 => σ = σ2 ∧ Q r )) := by
  refine xCt_ofL (lv := [(0, .ref a0), (1, .int l1), (2, .int l2), (3, .int l3)]) pn_X6 (Nat.le_of_ble_eq_true rfl) rfl ?_
  unfold wp_X6_state at hw
  refine x_aload_n dX6_state_0 rfl 0 rfl ?_
  refine x_iload_n dX6_state_1 rfl 1 rfl ?_
  refine x_callV (M2 := M_X6_promiseAt) (As := [.int l1]) (st := []) (ci := 6) (Nat.le_of_ble_eq_true rfl) hW.1 rfl wM_X6_103 wI_X6_promiseAt wS_X6_promiseAt dX6_state_2 rfl ok_X6_promiseAt ⟨(Nat.le_of_ble_eq_true rfl), (Nat.le_of_ble_eq_true rfl)⟩ (Nat.le_of_ble_eq_true rfl) (ct_X6_promiseAt hW hw) (xqR.k (fun x1 τ2 hw2 => ?_))
  obtain ⟨he, hw⟩ := hw2
  subst he
  refine x_astoreQ [(4, va_rf x1), (0, .ref a0), (1, .int l1), (2, .int l2), (3, .int l3)] dX6_state_5 (Nat.le_of_ble_eq_true rfl) rfl ?_
  refine x_aloadQ dX6_state_7 0 rfl ?_
  refine x_ifnull 28 dX6_state_9 rfl (fun hn3 => ?_) (fun a4 hs5 => ?_)
  · replace hw := hw.1 hn3
    exact x_sub [1] rfl (xb_X6_state_28 hW hw)
  · replace hw := hw.2 a4 hs5
    refine x_lvS 0 (lv2 := [(4, .ref a4), (0, .ref a0), (1, .int l1), (2, .int l2), (3, .int l3)]) rfl hs5 rfl ?_
    refine x_iload_n dX6_state_12 rfl 3 rfl ?_
    refine x_callS (M2 := M_X6_isHouse) (As := [.int l2]) (st := []) wM_X6_43 wZ_X6_isHouse dX6_state_13 rfl ok_X6_isHouse ⟨(Nat.le_of_ble_eq_true rfl), (Nat.le_of_ble_eq_true rfl)⟩ (Nat.le_of_ble_eq_true rfl) (ct_X6_isHouse hw) (xqI.k (fun x6 τ7 hw2 => ?_))
    obtain ⟨he, hw⟩ := hw2
    subst he
    refine x_if_eq 28 dX6_state_16 rfl (fun hc8 => ?_) (fun hc8 => ?_)
    · replace hw := hw.1 hc8
      exact x_sub [1] rfl (xb_X6_state_28 hW hw)
    · replace hw := hw.2 hc8
      refine x_iload_n dX6_state_19 rfl 4 rfl ?_
      refine x_if_lt 28 dX6_state_20 rfl (fun hc9 => ?_) (fun hc9 => ?_)
      · replace hw := hw.1 hc9
        exact x_sub [1] rfl (xb_X6_state_28 hW hw)
      · replace hw := hw.2 hc9
        refine x_iload_n dX6_state_23 rfl 4 rfl ?_
        refine x_iconst dX6_state_24 cI_1 ?_
        refine x_icmp_le 30 dX6_state_25 rfl (fun hc10 => ?_) (fun hc10 => ?_)
        · replace hw := hw.1 hc10
          refine x_aload dX6_state_30 0 rfl ?_
          refine x_iload_n dX6_state_32 rfl 3 rfl ?_
          obtain ⟨hk11, hw⟩ := hw
          refine x_callV (M2 := M_X2_isKnownIn) (As := [.int l2]) (st := []) (ci := 2) (Nat.le_of_ble_eq_true rfl) hk11 rfl wM_X6_107 wI_X2_isKnownIn wS_X2_isKnownIn dX6_state_33 rfl ok_X2_isKnownIn ⟨(Nat.le_of_ble_eq_true rfl), (Nat.le_of_ble_eq_true rfl)⟩ (Nat.le_of_ble_eq_true rfl) (ct_X2_isKnownIn hk11 hw) (xqI.k (fun x12 τ13 hw2 => ?_))
          obtain ⟨he, hw⟩ := hw2
          subst he
          refine x_if_ne 42 dX6_state_36 rfl (fun hc14 => ?_) (fun hc14 => ?_)
          · replace hw := hw.2 hc14
            refine x_iload_n dX6_state_42 rfl 4 rfl ?_
            refine x_if_ne 55 dX6_state_43 rfl (fun hc15 => ?_) (fun hc15 => ?_)
            · replace hw := hw.2 hc15
              refine x_aload dX6_state_55 0 rfl ?_
              refine x_iload_n dX6_state_57 rfl 3 rfl ?_
              refine x_callV (M2 := M_X2_valueIn) (As := [.int l2]) (st := []) (ci := 2) (Nat.le_of_ble_eq_true rfl) hk11 rfl wM_X6_154 wI_X2_valueIn wS_X2_valueIn dX6_state_58 rfl ok_X2_valueIn ⟨(Nat.le_of_ble_eq_true rfl), (Nat.le_of_ble_eq_true rfl)⟩ (Nat.le_of_ble_eq_true rfl) (ct_X2_valueIn hk11 hw) (xqI.k (fun x16 τ17 hw2 => ?_))
              obtain ⟨he, hw⟩ := hw2
              subst he
              exact x_sub [1] rfl (xb_X6_state_61 hW hw)
            · replace hw := hw.1 hc15
              refine x_aload dX6_state_46 0 rfl ?_
              refine x_iload_n dX6_state_48 rfl 3 rfl ?_
              refine x_callV (M2 := M_X2_howIn) (As := [.int l2]) (st := []) (ci := 2) (Nat.le_of_ble_eq_true rfl) hk11 rfl wM_X6_146 wI_X2_howIn wS_X2_howIn dX6_state_49 rfl ok_X2_howIn ⟨(Nat.le_of_ble_eq_true rfl), (Nat.le_of_ble_eq_true rfl)⟩ (Nat.le_of_ble_eq_true rfl) (ct_X2_howIn hk11 hw) (xqI.k (fun x18 τ19 hw2 => ?_))
              obtain ⟨he, hw⟩ := hw2
              subst he
              refine x_goto 61 dX6_state_52 rfl ?_
              exact x_sub [1] rfl (xb_X6_state_61 hW hw)
          · replace hw := hw.1 hc14
            refine x_bipush dX6_state_39 cB_m2 ?_
            exact x_iret dX6_state_41 rfl ⟨(-2), rfl, rfl, hw⟩
        · replace hw := hw.2 hc10
          exact x_sub [1] rfl (xb_X6_state_28 hW hw)
-- PromiseWire.promise(II)I
def wp_X6_promise (σ : xS) (a0 : Nat) (l1 : Int32) (l2 : Int32) (Q : Int32 → Prop) : Prop := wp_X6_promiseAt σ a0 l1 (fun x1 => (x1 = none → Q (-1)) ∧ (∀ a4, x1 = some a4 → (l2 = 0 → xh_k σ a4 = 3 ∧ (Q (xh_I σ 129 a4))) ∧ (¬ l2 = 0 → (l2 = 1 → xh_k σ a4 = 3 ∧ (Q (xh_I σ 130 a4))) ∧ (¬ l2 = 1 → (l2 = 2 → xh_k σ a4 = 3 ∧ ∃ r12, xh_R σ 132 a4 = some r12 ∧ (xh_k σ r12 = 1 ∧ (Q (xh_I σ 2 r12)))) ∧ (¬ l2 = 2 → (l2 = 3 → xh_k σ a4 = 3 ∧ ∃ r17, xh_R σ 131 a4 = some r17 ∧ (xh_k σ r17 = 2 ∧ (Q (xh_I σ 75 r17)))) ∧ (¬ l2 = 3 → (l2 = 4 → xh_k σ a4 = 3 ∧ ∃ r22, xh_R σ 131 a4 = some r22 ∧ (xh_k σ r22 = 2 ∧ (Q (xh_I σ 74 r22)))) ∧ (¬ l2 = 4 → Q (-1))))))))
set_option maxRecDepth 100000 in
set_option maxHeartbeats 4000000 in
theorem ct_X6_promise {σ : xS} {a0 : Nat}  {l1 : Int32} {l2 : Int32} {Q : Int32 → Prop} (hW : xw6 σ a0) (hw : wp_X6_promise σ a0 l1 l2 Q) : xCt M_X6_promise [.ref a0, .int l1, .int l2] σ (xqI (fun r σ2 => σ = σ2 ∧ Q r )) := by
  refine xCt_ofL (lv := [(0, .ref a0), (1, .int l1), (2, .int l2)]) pn_X6 (Nat.le_of_ble_eq_true rfl) rfl ?_
  unfold wp_X6_promise at hw
  refine x_aload_n dX6_promise_0 rfl 0 rfl ?_
  refine x_iload_n dX6_promise_1 rfl 1 rfl ?_
  refine x_callV (M2 := M_X6_promiseAt) (As := [.int l1]) (st := []) (ci := 6) (Nat.le_of_ble_eq_true rfl) hW.1 rfl wM_X6_103 wI_X6_promiseAt wS_X6_promiseAt dX6_promise_2 rfl ok_X6_promiseAt ⟨(Nat.le_of_ble_eq_true rfl), (Nat.le_of_ble_eq_true rfl)⟩ (Nat.le_of_ble_eq_true rfl) (ct_X6_promiseAt hW hw) (xqR.k (fun x1 τ2 hw2 => ?_))
  obtain ⟨he, hw⟩ := hw2
  subst he
  refine x_astore_nQ [(3, va_rf x1), (0, .ref a0), (1, .int l1), (2, .int l2)] dX6_promise_5 rfl (Nat.le_of_ble_eq_true rfl) rfl ?_
  refine x_aload_nQ dX6_promise_6 rfl 0 rfl ?_
  refine x_ifnonnull 12 dX6_promise_7 rfl (fun hn3 => ?_) (fun a4 hs5 => ?_)
  · replace hw := hw.1 hn3
    refine x_iconst dX6_promise_10 cI_m1 ?_
    exact x_iret dX6_promise_11 rfl ⟨(-1), rfl, rfl, hw⟩
  · replace hw := hw.2 a4 hs5
    refine x_lvS 0 (lv2 := [(3, .ref a4), (0, .ref a0), (1, .int l1), (2, .int l2)]) rfl hs5 rfl ?_
    refine x_iload_n dX6_promise_12 rfl 3 rfl ?_
    by_cases hc6 : l2 = 0
    · replace hw := hw.1 hc6
      refine x_tableIn (off := 35) 48 dX6_promise_13 (by rw [hc6]; decide) (by rw [hc6]; decide) (by rw [hc6]; rfl) rfl ?_
      refine x_aload_n dX6_promise_48 rfl 0 rfl ?_
      obtain ⟨hk7, hw⟩ := hw
      refine x_get (ci := 2) (k := 1) (v := .int (xh_I σ 129 a4)) dX6_promise_49 wF_X6_157 (Nat.le_of_ble_eq_true rfl) (Nat.le_of_ble_eq_true rfl) hk7 rfl ?_
      exact x_iret dX6_promise_52 rfl ⟨(xh_I σ 129 a4), rfl, rfl, hw⟩
    · replace hw := hw.2 hc6
      by_cases hc8 : l2 = 1
      · replace hw := hw.1 hc8
        refine x_tableIn (off := 40) 53 dX6_promise_13 (by rw [hc8]; decide) (by rw [hc8]; decide) (by rw [hc8]; rfl) rfl ?_
        refine x_aload_n dX6_promise_53 rfl 0 rfl ?_
        obtain ⟨hk9, hw⟩ := hw
        refine x_get (ci := 2) (k := 2) (v := .int (xh_I σ 130 a4)) dX6_promise_54 wF_X6_160 (Nat.le_of_ble_eq_true rfl) (Nat.le_of_ble_eq_true rfl) hk9 rfl ?_
        exact x_iret dX6_promise_57 rfl ⟨(xh_I σ 130 a4), rfl, rfl, hw⟩
      · replace hw := hw.2 hc8
        by_cases hc10 : l2 = 2
        · replace hw := hw.1 hc10
          refine x_tableIn (off := 45) 58 dX6_promise_13 (by rw [hc10]; decide) (by rw [hc10]; decide) (by rw [hc10]; rfl) rfl ?_
          refine x_aload_n dX6_promise_58 rfl 0 rfl ?_
          obtain ⟨hk11, hw⟩ := hw
          obtain ⟨r12, hr13, hw⟩ := hw
          refine x_get (ci := 2) (k := 4) (v := .ref r12) dX6_promise_59 wF_X6_163 (Nat.le_of_ble_eq_true rfl) (Nat.le_of_ble_eq_true rfl) hk11 (congrArg va_rf hr13) ?_
          obtain ⟨hk14, hw⟩ := hw
          refine x_get (ci := 0) (k := 2) (v := .int (xh_I σ 2 r12)) dX6_promise_62 wF_X6_100 (Nat.le_of_ble_eq_true rfl) (Nat.le_of_ble_eq_true rfl) hk14 rfl ?_
          exact x_iret dX6_promise_65 rfl ⟨(xh_I σ 2 r12), rfl, rfl, hw⟩
        · replace hw := hw.2 hc10
          by_cases hc15 : l2 = 3
          · replace hw := hw.1 hc15
            refine x_tableIn (off := 53) 66 dX6_promise_13 (by rw [hc15]; decide) (by rw [hc15]; decide) (by rw [hc15]; rfl) rfl ?_
            refine x_aload_n dX6_promise_66 rfl 0 rfl ?_
            obtain ⟨hk16, hw⟩ := hw
            obtain ⟨r17, hr18, hw⟩ := hw
            refine x_get (ci := 2) (k := 3) (v := .ref r17) dX6_promise_67 wF_X6_166 (Nat.le_of_ble_eq_true rfl) (Nat.le_of_ble_eq_true rfl) hk16 (congrArg va_rf hr18) ?_
            obtain ⟨hk19, hw⟩ := hw
            refine x_get (ci := 1) (k := 11) (v := .int (xh_I σ 75 r17)) dX6_promise_70 wF_X6_170 (Nat.le_of_ble_eq_true rfl) (Nat.le_of_ble_eq_true rfl) hk19 rfl ?_
            exact x_iret dX6_promise_73 rfl ⟨(xh_I σ 75 r17), rfl, rfl, hw⟩
          · replace hw := hw.2 hc15
            by_cases hc20 : l2 = 4
            · replace hw := hw.1 hc20
              refine x_tableIn (off := 61) 74 dX6_promise_13 (by rw [hc20]; decide) (by rw [hc20]; decide) (by rw [hc20]; rfl) rfl ?_
              refine x_aload_n dX6_promise_74 rfl 0 rfl ?_
              obtain ⟨hk21, hw⟩ := hw
              obtain ⟨r22, hr23, hw⟩ := hw
              refine x_get (ci := 2) (k := 3) (v := .ref r22) dX6_promise_75 wF_X6_166 (Nat.le_of_ble_eq_true rfl) (Nat.le_of_ble_eq_true rfl) hk21 (congrArg va_rf hr23) ?_
              obtain ⟨hk24, hw⟩ := hw
              refine x_get (ci := 1) (k := 10) (v := .int (xh_I σ 74 r22)) dX6_promise_78 wF_X6_173 (Nat.le_of_ble_eq_true rfl) (Nat.le_of_ble_eq_true rfl) hk24 rfl ?_
              exact x_iret dX6_promise_81 rfl ⟨(xh_I σ 74 r22), rfl, rfl, hw⟩
            · replace hw := hw.2 hc20
              refine x_tableOut 82 dX6_promise_13 (xsw_0_4 hc6 hc8 hc10 hc15 hc20) rfl ?_
              refine x_iconst dX6_promise_82 cI_m1 ?_
              exact x_iret dX6_promise_83 rfl ⟨(-1), rfl, rfl, hw⟩
-- PromiseWire.receiveAnswer(LPromiseWire$Message;I)V
def wb_X6_receiveAnswer_35 (Q : xS → Prop) (σ : xS) (a0 : Nat) : Prop := Q σ
set_option maxRecDepth 100000 in
set_option maxHeartbeats 4000000 in
theorem xb_X6_receiveAnswer_35 {Q : xS → Prop} {σ : xS} {a0 : Nat}  (hW : xw6 σ a0)  (hw : wb_X6_receiveAnswer_35 Q σ a0) : xX M_X6_receiveAnswer 35 [(0, .ref a0)] [] σ (xqV (fun σ2 => xw6 σ2 a0 ∧ Q σ2)) := by
  unfold wb_X6_receiveAnswer_35 at hw
  exact x_vret dX6_receiveAnswer_35 rfl ⟨rfl, hW, hw⟩
def wp_X6_receiveAnswer (σ : xS) (a0 : Nat) (l1 : Nat) (l2 : Int32) (Q : xS → Prop) : Prop := xh_k σ l1 = 2 ∧ ((xh_R σ 64 l1 = none → Q σ) ∧ (∀ a3, xh_R σ 64 l1 = some a3 → xh_k σ a3 = 3 ∧ ((l2 = (xh_I σ 130 a3) → wp_X0_add σ (a0 + 5) l1 (fun σ8 => xw6 σ8 a0 ∧ (wb_X6_receiveAnswer_35 Q σ8 a0))) ∧ (¬ l2 = (xh_I σ 130 a3) → wp_X6_tellAsker σ a0 a3 l1 (fun σ7 => wb_X6_receiveAnswer_35 Q σ7 a0)))))
set_option maxRecDepth 100000 in
set_option maxHeartbeats 4000000 in
theorem ct_X6_receiveAnswer {σ : xS} {a0 : Nat}  {l1 : Nat} {l2 : Int32} {Q : xS → Prop} (hW : xw6 σ a0) (hw : wp_X6_receiveAnswer σ a0 l1 l2 Q) : xCt M_X6_receiveAnswer [.ref a0, .ref l1, .int l2] σ (xqV (fun σ2 => xw6 σ2 a0 ∧ Q σ2)) := by
  refine xCt_ofL (lv := [(0, .ref a0), (1, .ref l1), (2, .int l2)]) pn_X6 (Nat.le_of_ble_eq_true rfl) rfl ?_
  unfold wp_X6_receiveAnswer at hw
  refine x_aload_n dX6_receiveAnswer_0 rfl 1 rfl ?_
  obtain ⟨hk1, hw⟩ := hw
  refine x_get (ci := 1) (k := 0) (v := va_rf (xh_R σ 64 l1)) dX6_receiveAnswer_1 wF_X6_132 (Nat.le_of_ble_eq_true rfl) (Nat.le_of_ble_eq_true rfl) hk1 rfl ?_
  refine x_astore_nQ [(3, va_rf (xh_R σ 64 l1)), (0, .ref a0), (1, .ref l1), (2, .int l2)] dX6_receiveAnswer_4 rfl (Nat.le_of_ble_eq_true rfl) rfl ?_
  refine x_aload_nQ dX6_receiveAnswer_5 rfl 0 rfl ?_
  refine x_ifnonnull 10 dX6_receiveAnswer_6 rfl (fun hn2 => ?_) (fun a3 hs4 => ?_)
  · replace hw := hw.1 hn2
    exact x_vret dX6_receiveAnswer_9 rfl ⟨rfl, hW, hw⟩
  · replace hw := hw.2 a3 hs4
    refine x_lvS 0 (lv2 := [(3, .ref a3), (0, .ref a0), (1, .ref l1), (2, .int l2)]) rfl hs4 rfl ?_
    refine x_iload_n dX6_receiveAnswer_10 rfl 3 rfl ?_
    refine x_aload_n dX6_receiveAnswer_11 rfl 0 rfl ?_
    obtain ⟨hk5, hw⟩ := hw
    refine x_get (ci := 2) (k := 2) (v := .int (xh_I σ 130 a3)) dX6_receiveAnswer_12 wF_X6_160 (Nat.le_of_ble_eq_true rfl) (Nat.le_of_ble_eq_true rfl) hk5 rfl ?_
    refine x_icmp_ne 29 dX6_receiveAnswer_15 rfl (fun hc6 => ?_) (fun hc6 => ?_)
    · replace hw := hw.2 hc6
      refine x_aload_n dX6_receiveAnswer_29 rfl 1 rfl ?_
      refine x_aload_n dX6_receiveAnswer_30 rfl 0 rfl ?_
      refine x_aload_n dX6_receiveAnswer_31 rfl 2 rfl ?_
      refine x_callV (M2 := M_X6_tellAsker) (As := [.ref a3, .ref l1]) (st := []) (ci := 6) (Nat.le_of_ble_eq_true rfl) hW.1 rfl wM_X6_345 wI_X6_tellAsker wS_X6_tellAsker dX6_receiveAnswer_32 rfl ok_X6_tellAsker ⟨(Nat.le_of_ble_eq_true rfl), (Nat.le_of_ble_eq_true rfl)⟩ (Nat.le_of_ble_eq_true rfl) (ct_X6_tellAsker hW hw) (xqV.k (fun σ7 hw2 => ?_))
      obtain ⟨hW, hw⟩ := hw2
      exact x_sub [1] rfl (xb_X6_receiveAnswer_35 hW hw)
    · replace hw := hw.1 hc6
      refine x_aload_n dX6_receiveAnswer_18 rfl 1 rfl ?_
      refine x_get (ci := 6) (k := 4) (v := .ref (a0 + 5)) dX6_receiveAnswer_19 wF_X6_36 (Nat.le_of_ble_eq_true rfl) (Nat.le_of_ble_eq_true rfl) hW.1 (congrArg va_rf (w6r_5 hW)) ?_
      refine x_aload_n dX6_receiveAnswer_22 rfl 2 rfl ?_
      refine x_callV (M2 := M_X0_add) (As := [.ref l1]) (st := []) (ci := 0) (Nat.le_of_ble_eq_true rfl) (w6k_5 hW) rfl wM_X6_313 wI_X0_add wS_X0_add dX6_receiveAnswer_23 rfl ok_X0_add ⟨(Nat.le_of_ble_eq_true rfl), (Nat.le_of_ble_eq_true rfl)⟩ (Nat.le_of_ble_eq_true rfl) (ct_X0_add (w6k_5 hW) hw) (xqV.k (fun σ8 hw2 => ?_))
      obtain ⟨hW, hw⟩ := hw2
      refine x_goto 35 dX6_receiveAnswer_26 rfl ?_
      exact x_sub [1] rfl (xb_X6_receiveAnswer_35 hW hw)
-- PromiseWire.reachPromise(LPromiseWire$Message;LPromiseWire$Promise;)V
def wb_X6_reachPromise_29 (Q : xS → Prop) (σ : xS) (a0 : Nat) : Prop := Q σ
set_option maxRecDepth 100000 in
set_option maxHeartbeats 4000000 in
theorem xb_X6_reachPromise_29 {Q : xS → Prop} {σ : xS} {a0 : Nat}  (hW : xw6 σ a0)  (hw : wb_X6_reachPromise_29 Q σ a0) : xX M_X6_reachPromise 29 [(0, .ref a0)] [] σ (xqV (fun σ2 => xw6 σ2 a0 ∧ Q σ2)) := by
  unfold wb_X6_reachPromise_29 at hw
  exact x_vret dX6_reachPromise_29 rfl ⟨rfl, hW, hw⟩
def wp_X6_reachPromise (σ : xS) (a0 : Nat) (l1 : Nat) (l2 : Nat) (Q : xS → Prop) : Prop := xh_k σ l2 = 3 ∧ (((xh_I σ 133 l2) = 0 → xh_k σ l1 = 2 ∧ ∀ σ5, σ5 = xs_I σ 74 l1 2 → (∃ r6, xh_R σ5 132 l2 = some r6 ∧ (xh_k σ5 r6 = 1 ∧ wp_X0_add σ5 r6 l1 (fun σ9 => xw6 σ9 a0 ∧ (wb_X6_reachPromise_29 Q σ9 a0))))) ∧ (¬ (xh_I σ 133 l2) = 0 → wp_X6_sendOn σ a0 l1 l2 (fun σ3 => wb_X6_reachPromise_29 Q σ3 a0)))
set_option maxRecDepth 100000 in
set_option maxHeartbeats 4000000 in
theorem ct_X6_reachPromise {σ : xS} {a0 : Nat}  {l1 : Nat} {l2 : Nat} {Q : xS → Prop} (hW : xw6 σ a0) (hw : wp_X6_reachPromise σ a0 l1 l2 Q) : xCt M_X6_reachPromise [.ref a0, .ref l1, .ref l2] σ (xqV (fun σ2 => xw6 σ2 a0 ∧ Q σ2)) := by
  refine xCt_ofL (lv := [(0, .ref a0), (1, .ref l1), (2, .ref l2)]) pn_X6 (Nat.le_of_ble_eq_true rfl) rfl ?_
  unfold wp_X6_reachPromise at hw
  refine x_aload_n dX6_reachPromise_0 rfl 2 rfl ?_
  obtain ⟨hk1, hw⟩ := hw
  refine x_get (ci := 2) (k := 5) (v := .int (xh_I σ 133 l2)) dX6_reachPromise_1 wF_X6_335 (Nat.le_of_ble_eq_true rfl) (Nat.le_of_ble_eq_true rfl) hk1 rfl ?_
  refine x_if_ne 23 dX6_reachPromise_4 rfl (fun hc2 => ?_) (fun hc2 => ?_)
  · replace hw := hw.2 hc2
    refine x_aload_n dX6_reachPromise_23 rfl 0 rfl ?_
    refine x_aload_n dX6_reachPromise_24 rfl 1 rfl ?_
    refine x_aload_n dX6_reachPromise_25 rfl 2 rfl ?_
    refine x_callV (M2 := M_X6_sendOn) (As := [.ref l1, .ref l2]) (st := []) (ci := 6) (Nat.le_of_ble_eq_true rfl) hW.1 rfl wM_X6_341 wI_X6_sendOn wS_X6_sendOn dX6_reachPromise_26 rfl ok_X6_sendOn ⟨(Nat.le_of_ble_eq_true rfl), (Nat.le_of_ble_eq_true rfl)⟩ (Nat.le_of_ble_eq_true rfl) (ct_X6_sendOn hW hw) (xqV.k (fun σ3 hw2 => ?_))
    obtain ⟨hW, hw⟩ := hw2
    exact x_sub [0] rfl (xb_X6_reachPromise_29 hW hw)
  · replace hw := hw.1 hc2
    refine x_aload_n dX6_reachPromise_7 rfl 1 rfl ?_
    refine x_iconst dX6_reachPromise_8 cI_2 ?_
    obtain ⟨hk4, hw⟩ := hw
    refine x_putIN (ci := 1) (k := 10) (f := 74) dX6_reachPromise_9 wF_X6_173 (Nat.le_of_ble_eq_true rfl) (Nat.le_of_ble_eq_true rfl) hk4 (Or.inl rfl) rfl (Or.inl rfl) (fun σ5 hσ5 => ?_)
    replace hw := hw σ5 hσ5
    refine x_aload_n dX6_reachPromise_12 rfl 2 rfl ?_
    obtain ⟨r6, hr7, hw⟩ := hw
    refine x_get (ci := 2) (k := 4) (v := .ref r6) dX6_reachPromise_13 wF_X6_163 (Nat.le_of_ble_eq_true rfl) (Nat.le_of_ble_eq_true rfl) (xk_I hσ5 hk1) (congrArg va_rf hr7) ?_
    refine x_aload_n dX6_reachPromise_16 rfl 1 rfl ?_
    obtain ⟨hk8, hw⟩ := hw
    refine x_callV (M2 := M_X0_add) (As := [.ref l1]) (st := []) (ci := 0) (Nat.le_of_ble_eq_true rfl) hk8 rfl wM_X6_313 wI_X0_add wS_X0_add dX6_reachPromise_17 rfl ok_X0_add ⟨(Nat.le_of_ble_eq_true rfl), (Nat.le_of_ble_eq_true rfl)⟩ (Nat.le_of_ble_eq_true rfl) (ct_X0_add hk8 hw) (xqV.k (fun σ9 hw2 => ?_))
    obtain ⟨hW, hw⟩ := hw2
    refine x_goto 29 dX6_reachPromise_20 rfl ?_
    exact x_sub [0] rfl (xb_X6_reachPromise_29 hW hw)
-- PromiseWire.hearAsCell(LPromiseWire$Thing;LPromiseWire$Message;)I
def wb_X6_hearAsCell_136 (Q : Int32 → xS → Prop) (σ : xS) (a0 : Nat) (l2 : Nat) : Prop := xh_k σ l2 = 2 ∧ wp_X1_answer σ l2 3 3 (fun x2 σ3 => xw6 σ3 a0 ∧ (Q x2 σ3))
set_option maxRecDepth 100000 in
set_option maxHeartbeats 4000000 in
theorem xb_X6_hearAsCell_136 {Q : Int32 → xS → Prop} {σ : xS} {a0 : Nat}  {l2 : Nat} (hW : xw6 σ a0)  (hw : wb_X6_hearAsCell_136 Q σ a0 l2) : xX M_X6_hearAsCell 136 [(0, .ref a0), (2, .ref l2)] [] σ (xqI (fun r σ2 => xw6 σ2 a0 ∧ Q r σ2)) := by
  unfold wb_X6_hearAsCell_136 at hw
  refine x_aload_n dX6_hearAsCell_136 rfl 1 rfl ?_
  refine x_iconst dX6_hearAsCell_137 cI_3 ?_
  refine x_iconst dX6_hearAsCell_138 cI_3 ?_
  obtain ⟨hk1, hw⟩ := hw
  refine x_callV (M2 := M_X1_answer) (As := [.int 3, .int 3]) (st := []) (ci := 1) (Nat.le_of_ble_eq_true rfl) hk1 rfl wM_X6_282 wI_X1_answer wS_X1_answer dX6_hearAsCell_139 rfl ok_X1_answer ⟨(Nat.le_of_ble_eq_true rfl), (Nat.le_of_ble_eq_true rfl)⟩ (Nat.le_of_ble_eq_true rfl) (ct_X1_answer hk1 hw) (xqI.k (fun x2 σ3 hw2 => ?_))
  obtain ⟨hW, hw⟩ := hw2
  exact x_iret dX6_hearAsCell_142 rfl ⟨x2, rfl, hW, hw⟩
def wp_X6_hearAsCell (σ : xS) (a0 : Nat) (l1 : Nat) (l2 : Nat) (Q : Int32 → xS → Prop) : Prop := ∀ σ4, σ4 = xs_L σ 393 a0 ((xh_L σ 393 a0) + 1) → (xh_k σ4 l1 = 4 ∧ (xh_k σ4 l2 = 2 ∧ (((xh_I σ4 65 l2) = 0 → wp_X1_answer σ4 l2 1 (xh_I σ4 198 l1) (fun x8 σ9 => xw6 σ9 a0 ∧ (Q x8 σ9))) ∧ (¬ (xh_I σ4 65 l2) = 0 → ((xh_I σ4 65 l2) = 1 → ∀ σ11, σ11 = xs_I σ4 198 l1 (xh_I σ4 66 l2) → (wp_X1_answer σ11 l2 1 (xh_I σ4 198 l1) (fun x12 σ13 => xw6 σ13 a0 ∧ (Q x12 σ13)))) ∧ (¬ (xh_I σ4 65 l2) = 1 → ((xh_I σ4 65 l2) = 2 → ∀ σ15, σ15 = xs_I σ4 198 l1 ((xh_I σ4 198 l1) + (xh_I σ4 66 l2)) → (wp_X1_answer σ15 l2 1 (xh_I σ15 198 l1) (fun x16 σ17 => xw6 σ17 a0 ∧ (Q x16 σ17)))) ∧ (¬ (xh_I σ4 65 l2) = 2 → ((xh_I σ4 65 l2) = 3 → ∀ σ19, σ19 = xs_I σ4 198 l1 ((xh_I σ4 198 l1) - (xh_I σ4 66 l2)) → (wp_X1_answer σ19 l2 1 (xh_I σ19 198 l1) (fun x20 σ21 => xw6 σ21 a0 ∧ (Q x20 σ21)))) ∧ (¬ (xh_I σ4 65 l2) = 3 → ((xh_I σ4 65 l2) = 4 → wb_X6_hearAsCell_136 Q σ4 a0 l2) ∧ (¬ (xh_I σ4 65 l2) = 4 → ((xh_I σ4 65 l2) = 5 → wb_X6_hearAsCell_136 Q σ4 a0 l2) ∧ (¬ (xh_I σ4 65 l2) = 5 → ((xh_I σ4 65 l2) = 6 → wb_X6_hearAsCell_136 Q σ4 a0 l2) ∧ (¬ (xh_I σ4 65 l2) = 6 → ((xh_I σ4 65 l2) = 7 → wp_X1_answer σ4 l2 2 (xh_I σ4 192 l1) (fun x26 σ27 => xw6 σ27 a0 ∧ (Q x26 σ27))) ∧ (¬ (xh_I σ4 65 l2) = 7 → wb_X6_hearAsCell_136 Q σ4 a0 l2)))))))))))
set_option maxRecDepth 100000 in
set_option maxHeartbeats 4000000 in
theorem ct_X6_hearAsCell {σ : xS} {a0 : Nat}  {l1 : Nat} {l2 : Nat} {Q : Int32 → xS → Prop} (hW : xw6 σ a0) (hw : wp_X6_hearAsCell σ a0 l1 l2 Q) : xCt M_X6_hearAsCell [.ref a0, .ref l1, .ref l2] σ (xqI (fun r σ2 => xw6 σ2 a0 ∧ Q r σ2)) := by
  refine xCt_ofL (lv := [(0, .ref a0), (1, .ref l1), (2, .ref l2)]) pn_X6 (Nat.le_of_ble_eq_true rfl) rfl ?_
  unfold wp_X6_hearAsCell at hw
  refine x_aload_n dX6_hearAsCell_0 rfl 0 rfl ?_
  refine x_dup dX6_hearAsCell_1 rfl ?_
  refine x_get (ci := 6) (k := 9) (v := .long (xh_L σ 393 a0)) dX6_hearAsCell_2 wF_X6_253 (Nat.le_of_ble_eq_true rfl) (Nat.le_of_ble_eq_true rfl) hW.1 rfl ?_
  refine x_lconst dX6_hearAsCell_5 cL_1 ?_
  refine x_ladd dX6_hearAsCell_6 ?_
  refine x_putLN (ci := 6) (k := 9) (f := 393) dX6_hearAsCell_7 wF_X6_253 (Nat.le_of_ble_eq_true rfl) (Nat.le_of_ble_eq_true rfl) hW.1 (Or.inl rfl) rfl rfl (fun σ4 hσ4 => ?_)
  replace hw := hw σ4 hσ4
  refine x_aload_n dX6_hearAsCell_10 rfl 1 rfl ?_
  obtain ⟨hk5, hw⟩ := hw
  refine x_get (ci := 3) (k := 6) (v := .int (xh_I σ4 198 l1)) dX6_hearAsCell_11 wF_X6_84 (Nat.le_of_ble_eq_true rfl) (Nat.le_of_ble_eq_true rfl) hk5 rfl ?_
  refine x_istore_n [(3, .int (xh_I σ4 198 l1)), (0, .ref a0), (1, .ref l1), (2, .ref l2)] dX6_hearAsCell_14 rfl (Nat.le_of_ble_eq_true rfl) rfl ?_
  refine x_aload_n dX6_hearAsCell_15 rfl 3 rfl ?_
  obtain ⟨hk6, hw⟩ := hw
  refine x_get (ci := 1) (k := 1) (v := .int (xh_I σ4 65 l2)) dX6_hearAsCell_16 wF_X6_219 (Nat.le_of_ble_eq_true rfl) (Nat.le_of_ble_eq_true rfl) hk6 rfl ?_
  by_cases hc7 : (xh_I σ4 65 l2) = 0
  · replace hw := hw.1 hc7
    refine x_tableIn (off := 45) 64 dX6_hearAsCell_19 (by rw [hc7]; decide) (by rw [hc7]; decide) (by rw [hc7]; rfl) rfl ?_
    refine x_aload_n dX6_hearAsCell_64 rfl 3 rfl ?_
    refine x_iconst dX6_hearAsCell_65 cI_1 ?_
    refine x_iload_n dX6_hearAsCell_66 rfl 0 rfl ?_
    refine x_callV (M2 := M_X1_answer) (As := [.int 1, .int (xh_I σ4 198 l1)]) (st := []) (ci := 1) (Nat.le_of_ble_eq_true rfl) hk6 rfl wM_X6_282 wI_X1_answer wS_X1_answer dX6_hearAsCell_67 rfl ok_X1_answer ⟨(Nat.le_of_ble_eq_true rfl), (Nat.le_of_ble_eq_true rfl)⟩ (Nat.le_of_ble_eq_true rfl) (ct_X1_answer hk6 hw) (xqI.k (fun x8 σ9 hw2 => ?_))
    obtain ⟨hW, hw⟩ := hw2
    exact x_iret dX6_hearAsCell_70 rfl ⟨x8, rfl, hW, hw⟩
  · replace hw := hw.2 hc7
    by_cases hc10 : (xh_I σ4 65 l2) = 1
    · replace hw := hw.1 hc10
      refine x_tableIn (off := 52) 71 dX6_hearAsCell_19 (by rw [hc10]; decide) (by rw [hc10]; decide) (by rw [hc10]; rfl) rfl ?_
      refine x_aload_n dX6_hearAsCell_71 rfl 2 rfl ?_
      refine x_aload_n dX6_hearAsCell_72 rfl 3 rfl ?_
      refine x_get (ci := 1) (k := 2) (v := .int (xh_I σ4 66 l2)) dX6_hearAsCell_73 wF_X6_225 (Nat.le_of_ble_eq_true rfl) (Nat.le_of_ble_eq_true rfl) hk6 rfl ?_
      refine x_putIN (ci := 3) (k := 6) (f := 198) dX6_hearAsCell_76 wF_X6_84 (Nat.le_of_ble_eq_true rfl) (Nat.le_of_ble_eq_true rfl) hk5 (Or.inl rfl) rfl (Or.inl rfl) (fun σ11 hσ11 => ?_)
      replace hw := hw σ11 hσ11
      refine x_aload_n dX6_hearAsCell_79 rfl 3 rfl ?_
      refine x_iconst dX6_hearAsCell_80 cI_1 ?_
      refine x_iload_n dX6_hearAsCell_81 rfl 0 rfl ?_
      refine x_callV (M2 := M_X1_answer) (As := [.int 1, .int (xh_I σ4 198 l1)]) (st := []) (ci := 1) (Nat.le_of_ble_eq_true rfl) (xk_I hσ11 hk6) rfl wM_X6_282 wI_X1_answer wS_X1_answer dX6_hearAsCell_82 rfl ok_X1_answer ⟨(Nat.le_of_ble_eq_true rfl), (Nat.le_of_ble_eq_true rfl)⟩ (Nat.le_of_ble_eq_true rfl) (ct_X1_answer (xk_I hσ11 hk6) hw) (xqI.k (fun x12 σ13 hw2 => ?_))
      obtain ⟨hW, hw⟩ := hw2
      exact x_iret dX6_hearAsCell_85 rfl ⟨x12, rfl, hW, hw⟩
    · replace hw := hw.2 hc10
      by_cases hc14 : (xh_I σ4 65 l2) = 2
      · replace hw := hw.1 hc14
        refine x_tableIn (off := 67) 86 dX6_hearAsCell_19 (by rw [hc14]; decide) (by rw [hc14]; decide) (by rw [hc14]; rfl) rfl ?_
        refine x_aload_n dX6_hearAsCell_86 rfl 2 rfl ?_
        refine x_iload_n dX6_hearAsCell_87 rfl 0 rfl ?_
        refine x_aload_n dX6_hearAsCell_88 rfl 3 rfl ?_
        refine x_get (ci := 1) (k := 2) (v := .int (xh_I σ4 66 l2)) dX6_hearAsCell_89 wF_X6_225 (Nat.le_of_ble_eq_true rfl) (Nat.le_of_ble_eq_true rfl) hk6 rfl ?_
        refine x_iadd dX6_hearAsCell_92 ?_
        refine x_putIN (ci := 3) (k := 6) (f := 198) dX6_hearAsCell_93 wF_X6_84 (Nat.le_of_ble_eq_true rfl) (Nat.le_of_ble_eq_true rfl) hk5 (Or.inl rfl) rfl (Or.inl rfl) (fun σ15 hσ15 => ?_)
        replace hw := hw σ15 hσ15
        refine x_aload_n dX6_hearAsCell_96 rfl 3 rfl ?_
        refine x_iconst dX6_hearAsCell_97 cI_1 ?_
        refine x_aload_n dX6_hearAsCell_98 rfl 2 rfl ?_
        refine x_get (ci := 3) (k := 6) (v := .int (xh_I σ15 198 l1)) dX6_hearAsCell_99 wF_X6_84 (Nat.le_of_ble_eq_true rfl) (Nat.le_of_ble_eq_true rfl) (xk_I hσ15 hk5) rfl ?_
        refine x_callV (M2 := M_X1_answer) (As := [.int 1, .int (xh_I σ15 198 l1)]) (st := []) (ci := 1) (Nat.le_of_ble_eq_true rfl) (xk_I hσ15 hk6) rfl wM_X6_282 wI_X1_answer wS_X1_answer dX6_hearAsCell_102 rfl ok_X1_answer ⟨(Nat.le_of_ble_eq_true rfl), (Nat.le_of_ble_eq_true rfl)⟩ (Nat.le_of_ble_eq_true rfl) (ct_X1_answer (xk_I hσ15 hk6) hw) (xqI.k (fun x16 σ17 hw2 => ?_))
        obtain ⟨hW, hw⟩ := hw2
        exact x_iret dX6_hearAsCell_105 rfl ⟨x16, rfl, hW, hw⟩
      · replace hw := hw.2 hc14
        by_cases hc18 : (xh_I σ4 65 l2) = 3
        · replace hw := hw.1 hc18
          refine x_tableIn (off := 87) 106 dX6_hearAsCell_19 (by rw [hc18]; decide) (by rw [hc18]; decide) (by rw [hc18]; rfl) rfl ?_
          refine x_aload_n dX6_hearAsCell_106 rfl 2 rfl ?_
          refine x_iload_n dX6_hearAsCell_107 rfl 0 rfl ?_
          refine x_aload_n dX6_hearAsCell_108 rfl 3 rfl ?_
          refine x_get (ci := 1) (k := 2) (v := .int (xh_I σ4 66 l2)) dX6_hearAsCell_109 wF_X6_225 (Nat.le_of_ble_eq_true rfl) (Nat.le_of_ble_eq_true rfl) hk6 rfl ?_
          refine x_isub dX6_hearAsCell_112 ?_
          refine x_putIN (ci := 3) (k := 6) (f := 198) dX6_hearAsCell_113 wF_X6_84 (Nat.le_of_ble_eq_true rfl) (Nat.le_of_ble_eq_true rfl) hk5 (Or.inl rfl) rfl (Or.inl rfl) (fun σ19 hσ19 => ?_)
          replace hw := hw σ19 hσ19
          refine x_aload_n dX6_hearAsCell_116 rfl 3 rfl ?_
          refine x_iconst dX6_hearAsCell_117 cI_1 ?_
          refine x_aload_n dX6_hearAsCell_118 rfl 2 rfl ?_
          refine x_get (ci := 3) (k := 6) (v := .int (xh_I σ19 198 l1)) dX6_hearAsCell_119 wF_X6_84 (Nat.le_of_ble_eq_true rfl) (Nat.le_of_ble_eq_true rfl) (xk_I hσ19 hk5) rfl ?_
          refine x_callV (M2 := M_X1_answer) (As := [.int 1, .int (xh_I σ19 198 l1)]) (st := []) (ci := 1) (Nat.le_of_ble_eq_true rfl) (xk_I hσ19 hk6) rfl wM_X6_282 wI_X1_answer wS_X1_answer dX6_hearAsCell_122 rfl ok_X1_answer ⟨(Nat.le_of_ble_eq_true rfl), (Nat.le_of_ble_eq_true rfl)⟩ (Nat.le_of_ble_eq_true rfl) (ct_X1_answer (xk_I hσ19 hk6) hw) (xqI.k (fun x20 σ21 hw2 => ?_))
          obtain ⟨hW, hw⟩ := hw2
          exact x_iret dX6_hearAsCell_125 rfl ⟨x20, rfl, hW, hw⟩
        · replace hw := hw.2 hc18
          by_cases hc22 : (xh_I σ4 65 l2) = 4
          · replace hw := hw.1 hc22
            refine x_tableIn (off := 117) 136 dX6_hearAsCell_19 (by rw [hc22]; decide) (by rw [hc22]; decide) (by rw [hc22]; rfl) rfl ?_
            have hW := (xw6_L hσ4 hW)
            exact x_sub [1, 3] rfl (xb_X6_hearAsCell_136 hW hw)
          · replace hw := hw.2 hc22
            by_cases hc23 : (xh_I σ4 65 l2) = 5
            · replace hw := hw.1 hc23
              refine x_tableIn (off := 117) 136 dX6_hearAsCell_19 (by rw [hc23]; decide) (by rw [hc23]; decide) (by rw [hc23]; rfl) rfl ?_
              have hW := (xw6_L hσ4 hW)
              exact x_sub [1, 3] rfl (xb_X6_hearAsCell_136 hW hw)
            · replace hw := hw.2 hc23
              by_cases hc24 : (xh_I σ4 65 l2) = 6
              · replace hw := hw.1 hc24
                refine x_tableIn (off := 117) 136 dX6_hearAsCell_19 (by rw [hc24]; decide) (by rw [hc24]; decide) (by rw [hc24]; rfl) rfl ?_
                have hW := (xw6_L hσ4 hW)
                exact x_sub [1, 3] rfl (xb_X6_hearAsCell_136 hW hw)
              · replace hw := hw.2 hc24
                by_cases hc25 : (xh_I σ4 65 l2) = 7
                · replace hw := hw.1 hc25
                  refine x_tableIn (off := 107) 126 dX6_hearAsCell_19 (by rw [hc25]; decide) (by rw [hc25]; decide) (by rw [hc25]; rfl) rfl ?_
                  refine x_aload_n dX6_hearAsCell_126 rfl 3 rfl ?_
                  refine x_iconst dX6_hearAsCell_127 cI_2 ?_
                  refine x_aload_n dX6_hearAsCell_128 rfl 2 rfl ?_
                  refine x_get (ci := 3) (k := 0) (v := .int (xh_I σ4 192 l1)) dX6_hearAsCell_129 wF_X6_91 (Nat.le_of_ble_eq_true rfl) (Nat.le_of_ble_eq_true rfl) hk5 rfl ?_
                  refine x_callV (M2 := M_X1_answer) (As := [.int 2, .int (xh_I σ4 192 l1)]) (st := []) (ci := 1) (Nat.le_of_ble_eq_true rfl) hk6 rfl wM_X6_282 wI_X1_answer wS_X1_answer dX6_hearAsCell_132 rfl ok_X1_answer ⟨(Nat.le_of_ble_eq_true rfl), (Nat.le_of_ble_eq_true rfl)⟩ (Nat.le_of_ble_eq_true rfl) (ct_X1_answer hk6 hw) (xqI.k (fun x26 σ27 hw2 => ?_))
                  obtain ⟨hW, hw⟩ := hw2
                  exact x_iret dX6_hearAsCell_135 rfl ⟨x26, rfl, hW, hw⟩
                · replace hw := hw.2 hc25
                  refine x_tableOut 136 dX6_hearAsCell_19 (xsw_0_7 hc7 hc10 hc14 hc18 hc22 hc23 hc24 hc25) rfl ?_
                  have hW := (xw6_L hσ4 hW)
                  exact x_sub [1, 3] rfl (xb_X6_hearAsCell_136 hW hw)
-- PromiseWire.hearAsPurse(LPromiseWire$Thing;LPromiseWire$Message;)I
def wb_X6_hearAsPurse_121 (Q : Int32 → xS → Prop) (σ : xS) (a0 : Nat) (l1 : Nat) (l2 : Nat) (l3 : Int32) : Prop := (l3 = 4 → xh_k σ l1 = 4 ∧ (xh_k σ l2 = 2 ∧ (∀ σ4, σ4 = xs_I σ 198 l1 ((xh_I σ 198 l1) - (xh_I σ 66 l2)) → (∀ σ5, σ5 = xs_I σ4 65 l2 2 → (∀ σ6, σ6 = xs_R σ5 68 l2 (xh_R σ5 67 l2) → (∀ σ7, σ7 = xs_R σ6 70 l2 (some l1) → (Q 3 σ7))))))) ∧ (¬ l3 = 4 → wp_X6_hearAsCell σ a0 l1 l2 (fun x8 σ9 => Q x8 σ9))
set_option maxRecDepth 100000 in
set_option maxHeartbeats 4000000 in
theorem xb_X6_hearAsPurse_121 {Q : Int32 → xS → Prop} {σ : xS} {a0 : Nat}  {l1 : Nat} {l2 : Nat} {l3 : Int32} (hW : xw6 σ a0)  (hw : wb_X6_hearAsPurse_121 Q σ a0 l1 l2 l3) : xX M_X6_hearAsPurse 121 [(0, .ref a0), (1, .ref l1), (2, .ref l2), (3, .int l3)] [] σ (xqI (fun r σ2 => xw6 σ2 a0 ∧ Q r σ2)) := by
  unfold wb_X6_hearAsPurse_121 at hw
  refine x_iload_n dX6_hearAsPurse_121 rfl 3 rfl ?_
  refine x_iconst dX6_hearAsPurse_122 cI_4 ?_
  refine x_icmp_eq 133 dX6_hearAsPurse_123 rfl (fun hc1 => ?_) (fun hc1 => ?_)
  · replace hw := hw.1 hc1
    refine x_aload_n dX6_hearAsPurse_133 rfl 1 rfl ?_
    refine x_dup dX6_hearAsPurse_134 rfl ?_
    obtain ⟨hk2, hw⟩ := hw
    refine x_get (ci := 3) (k := 6) (v := .int (xh_I σ 198 l1)) dX6_hearAsPurse_135 wF_X6_84 (Nat.le_of_ble_eq_true rfl) (Nat.le_of_ble_eq_true rfl) hk2 rfl ?_
    refine x_aload_n dX6_hearAsPurse_138 rfl 2 rfl ?_
    obtain ⟨hk3, hw⟩ := hw
    refine x_get (ci := 1) (k := 2) (v := .int (xh_I σ 66 l2)) dX6_hearAsPurse_139 wF_X6_225 (Nat.le_of_ble_eq_true rfl) (Nat.le_of_ble_eq_true rfl) hk3 rfl ?_
    refine x_isub dX6_hearAsPurse_142 ?_
    refine x_putIN (ci := 3) (k := 6) (f := 198) dX6_hearAsPurse_143 wF_X6_84 (Nat.le_of_ble_eq_true rfl) (Nat.le_of_ble_eq_true rfl) hk2 (Or.inl rfl) rfl (Or.inl rfl) (fun σ4 hσ4 => ?_)
    replace hw := hw σ4 hσ4
    refine x_aload_n dX6_hearAsPurse_146 rfl 2 rfl ?_
    refine x_iconst dX6_hearAsPurse_147 cI_2 ?_
    refine x_putIN (ci := 1) (k := 1) (f := 65) dX6_hearAsPurse_148 wF_X6_219 (Nat.le_of_ble_eq_true rfl) (Nat.le_of_ble_eq_true rfl) (xk_I hσ4 hk3) (Or.inl rfl) rfl (Or.inl rfl) (fun σ5 hσ5 => ?_)
    replace hw := hw σ5 hσ5
    refine x_aload_n dX6_hearAsPurse_151 rfl 2 rfl ?_
    refine x_aload_n dX6_hearAsPurse_152 rfl 2 rfl ?_
    refine x_get (ci := 1) (k := 3) (v := va_rf (xh_R σ5 67 l2)) dX6_hearAsPurse_153 wF_X6_287 (Nat.le_of_ble_eq_true rfl) (Nat.le_of_ble_eq_true rfl) (xk_I hσ5 (xk_I hσ4 hk3)) rfl ?_
    refine x_putRN (r := (xh_R σ5 67 l2)) (ci := 1) (k := 4) (f := 68) dX6_hearAsPurse_156 wF_X6_118 (Nat.le_of_ble_eq_true rfl) (Nat.le_of_ble_eq_true rfl) (xk_I hσ5 (xk_I hσ4 hk3)) (Or.inl rfl) rfl rfl (fun σ6 hσ6 => ?_)
    replace hw := hw σ6 hσ6
    refine x_aload_n dX6_hearAsPurse_159 rfl 2 rfl ?_
    refine x_aload_n dX6_hearAsPurse_160 rfl 1 rfl ?_
    refine x_putRN (r := (some l1)) (ci := 1) (k := 6) (f := 70) dX6_hearAsPurse_161 wF_X6_290 (Nat.le_of_ble_eq_true rfl) (Nat.le_of_ble_eq_true rfl) (xk_R hσ6 (xk_I hσ5 (xk_I hσ4 hk3))) (Or.inl rfl) rfl rfl (fun σ7 hσ7 => ?_)
    replace hw := hw σ7 hσ7
    refine x_iconst dX6_hearAsPurse_164 cI_3 ?_
    have hW := (xw6_R (by decide) hσ7 (xw6_R (by decide) hσ6 (xw6_I hσ5 (xw6_I hσ4 hW))))
    exact x_iret dX6_hearAsPurse_165 rfl ⟨3, rfl, hW, hw⟩
  · replace hw := hw.2 hc1
    refine x_aload_n dX6_hearAsPurse_126 rfl 0 rfl ?_
    refine x_aload_n dX6_hearAsPurse_127 rfl 1 rfl ?_
    refine x_aload_n dX6_hearAsPurse_128 rfl 2 rfl ?_
    refine x_callV (M2 := M_X6_hearAsCell) (As := [.ref l1, .ref l2]) (st := []) (ci := 6) (Nat.le_of_ble_eq_true rfl) hW.1 rfl wM_X6_279 wI_X6_hearAsCell wS_X6_hearAsCell dX6_hearAsPurse_129 rfl ok_X6_hearAsCell ⟨(Nat.le_of_ble_eq_true rfl), (Nat.le_of_ble_eq_true rfl)⟩ (Nat.le_of_ble_eq_true rfl) (ct_X6_hearAsCell hW hw) (xqI.k (fun x8 σ9 hw2 => ?_))
    obtain ⟨hW, hw⟩ := hw2
    exact x_iret dX6_hearAsPurse_132 rfl ⟨x8, rfl, hW, hw⟩
def wb_X6_hearAsPurse_103 (Q : Int32 → xS → Prop) (σ : xS) (a0 : Nat) (l1 : Nat) (l2 : Nat) (l3 : Int32) : Prop := xh_k σ l2 = 2 ∧ (xh_k σ l1 = 4 ∧ (((xh_I σ 66 l2) ≤ (xh_I σ 198 l1) → wb_X6_hearAsPurse_121 Q σ a0 l1 l2 l3) ∧ (¬ (xh_I σ 66 l2) ≤ (xh_I σ 198 l1) → wp_X1_answer σ l2 3 2 (fun x13 σ14 => xw6 σ14 a0 ∧ (Q x13 σ14)))))
set_option maxRecDepth 100000 in
set_option maxHeartbeats 4000000 in
theorem xb_X6_hearAsPurse_103 {Q : Int32 → xS → Prop} {σ : xS} {a0 : Nat}  {l1 : Nat} {l2 : Nat} {l3 : Int32} (hW : xw6 σ a0)  (hw : wb_X6_hearAsPurse_103 Q σ a0 l1 l2 l3) : xX M_X6_hearAsPurse 103 [(0, .ref a0), (1, .ref l1), (2, .ref l2), (3, .int l3)] [] σ (xqI (fun r σ2 => xw6 σ2 a0 ∧ Q r σ2)) := by
  unfold wb_X6_hearAsPurse_103 at hw
  refine x_aload_n dX6_hearAsPurse_103 rfl 2 rfl ?_
  obtain ⟨hk10, hw⟩ := hw
  refine x_get (ci := 1) (k := 2) (v := .int (xh_I σ 66 l2)) dX6_hearAsPurse_104 wF_X6_225 (Nat.le_of_ble_eq_true rfl) (Nat.le_of_ble_eq_true rfl) hk10 rfl ?_
  refine x_aload_n dX6_hearAsPurse_107 rfl 1 rfl ?_
  obtain ⟨hk11, hw⟩ := hw
  refine x_get (ci := 3) (k := 6) (v := .int (xh_I σ 198 l1)) dX6_hearAsPurse_108 wF_X6_84 (Nat.le_of_ble_eq_true rfl) (Nat.le_of_ble_eq_true rfl) hk11 rfl ?_
  refine x_icmp_le 121 dX6_hearAsPurse_111 rfl (fun hc12 => ?_) (fun hc12 => ?_)
  · replace hw := hw.1 hc12
    exact x_sub [0, 1, 2, 3] rfl (xb_X6_hearAsPurse_121 hW hw)
  · replace hw := hw.2 hc12
    refine x_aload_n dX6_hearAsPurse_114 rfl 2 rfl ?_
    refine x_iconst dX6_hearAsPurse_115 cI_3 ?_
    refine x_iconst dX6_hearAsPurse_116 cI_2 ?_
    refine x_callV (M2 := M_X1_answer) (As := [.int 3, .int 2]) (st := []) (ci := 1) (Nat.le_of_ble_eq_true rfl) hk10 rfl wM_X6_282 wI_X1_answer wS_X1_answer dX6_hearAsPurse_117 rfl ok_X1_answer ⟨(Nat.le_of_ble_eq_true rfl), (Nat.le_of_ble_eq_true rfl)⟩ (Nat.le_of_ble_eq_true rfl) (ct_X1_answer hk10 hw) (xqI.k (fun x13 σ14 hw2 => ?_))
    obtain ⟨hW, hw⟩ := hw2
    exact x_iret dX6_hearAsPurse_120 rfl ⟨x13, rfl, hW, hw⟩
def wb_X6_hearAsPurse_93 (Q : Int32 → xS → Prop) (σ : xS) (a0 : Nat) (l1 : Nat) (l2 : Nat) (l3 : Int32) : Prop := (l3 = 3 → wb_X6_hearAsPurse_103 Q σ a0 l1 l2 l3) ∧ (¬ l3 = 3 → (l3 = 4 → wb_X6_hearAsPurse_103 Q σ a0 l1 l2 l3) ∧ (¬ l3 = 4 → wb_X6_hearAsPurse_121 Q σ a0 l1 l2 l3))
set_option maxRecDepth 100000 in
set_option maxHeartbeats 4000000 in
theorem xb_X6_hearAsPurse_93 {Q : Int32 → xS → Prop} {σ : xS} {a0 : Nat}  {l1 : Nat} {l2 : Nat} {l3 : Int32} (hW : xw6 σ a0)  (hw : wb_X6_hearAsPurse_93 Q σ a0 l1 l2 l3) : xX M_X6_hearAsPurse 93 [(0, .ref a0), (1, .ref l1), (2, .ref l2), (3, .int l3)] [] σ (xqI (fun r σ2 => xw6 σ2 a0 ∧ Q r σ2)) := by
  unfold wb_X6_hearAsPurse_93 at hw
  refine x_iload_n dX6_hearAsPurse_93 rfl 3 rfl ?_
  refine x_iconst dX6_hearAsPurse_94 cI_3 ?_
  refine x_icmp_eq 103 dX6_hearAsPurse_95 rfl (fun hc15 => ?_) (fun hc15 => ?_)
  · replace hw := hw.1 hc15
    exact x_sub [0, 1, 2, 3] rfl (xb_X6_hearAsPurse_103 hW hw)
  · replace hw := hw.2 hc15
    refine x_iload_n dX6_hearAsPurse_98 rfl 3 rfl ?_
    refine x_iconst dX6_hearAsPurse_99 cI_4 ?_
    refine x_icmp_ne 121 dX6_hearAsPurse_100 rfl (fun hc16 => ?_) (fun hc16 => ?_)
    · replace hw := hw.2 hc16
      exact x_sub [0, 1, 2, 3] rfl (xb_X6_hearAsPurse_121 hW hw)
    · replace hw := hw.1 hc16
      exact x_sub [0, 1, 2, 3] rfl (xb_X6_hearAsPurse_103 hW hw)
def wb_X6_hearAsPurse_86 (Q : Int32 → xS → Prop) (σ : xS) (a0 : Nat) (l2 : Nat) : Prop := xh_k σ l2 = 2 ∧ wp_X1_answer σ l2 3 3 (fun x18 σ19 => xw6 σ19 a0 ∧ (Q x18 σ19))
set_option maxRecDepth 100000 in
set_option maxHeartbeats 4000000 in
theorem xb_X6_hearAsPurse_86 {Q : Int32 → xS → Prop} {σ : xS} {a0 : Nat}  {l2 : Nat} (hW : xw6 σ a0)  (hw : wb_X6_hearAsPurse_86 Q σ a0 l2) : xX M_X6_hearAsPurse 86 [(0, .ref a0), (2, .ref l2)] [] σ (xqI (fun r σ2 => xw6 σ2 a0 ∧ Q r σ2)) := by
  unfold wb_X6_hearAsPurse_86 at hw
  refine x_aload_n dX6_hearAsPurse_86 rfl 1 rfl ?_
  refine x_iconst dX6_hearAsPurse_87 cI_3 ?_
  refine x_iconst dX6_hearAsPurse_88 cI_3 ?_
  obtain ⟨hk17, hw⟩ := hw
  refine x_callV (M2 := M_X1_answer) (As := [.int 3, .int 3]) (st := []) (ci := 1) (Nat.le_of_ble_eq_true rfl) hk17 rfl wM_X6_282 wI_X1_answer wS_X1_answer dX6_hearAsPurse_89 rfl ok_X1_answer ⟨(Nat.le_of_ble_eq_true rfl), (Nat.le_of_ble_eq_true rfl)⟩ (Nat.le_of_ble_eq_true rfl) (ct_X1_answer hk17 hw) (xqI.k (fun x18 σ19 hw2 => ?_))
  obtain ⟨hW, hw⟩ := hw2
  exact x_iret dX6_hearAsPurse_92 rfl ⟨x18, rfl, hW, hw⟩
def wb_X6_hearAsPurse_63 (Q : Int32 → xS → Prop) (σ : xS) (a0 : Nat) (l1 : Nat) (l2 : Nat) (l3 : Int32) : Prop := (l3 = 4 → xh_k σ l2 = 2 ∧ ((xh_R σ 67 l2 = none → wb_X6_hearAsPurse_86 Q σ a0 l2) ∧ (∀ a23, xh_R σ 67 l2 = some a23 → xh_k σ a23 = 4 ∧ (((xh_I σ 194 a23) = 1 → wb_X6_hearAsPurse_93 Q σ a0 l1 l2 l3) ∧ (¬ (xh_I σ 194 a23) = 1 → wb_X6_hearAsPurse_86 Q σ a0 l2))))) ∧ (¬ l3 = 4 → wb_X6_hearAsPurse_93 Q σ a0 l1 l2 l3)
set_option maxRecDepth 100000 in
set_option maxHeartbeats 4000000 in
theorem xb_X6_hearAsPurse_63 {Q : Int32 → xS → Prop} {σ : xS} {a0 : Nat}  {l1 : Nat} {l2 : Nat} {l3 : Int32} (hW : xw6 σ a0)  (hw : wb_X6_hearAsPurse_63 Q σ a0 l1 l2 l3) : xX M_X6_hearAsPurse 63 [(0, .ref a0), (1, .ref l1), (2, .ref l2), (3, .int l3)] [] σ (xqI (fun r σ2 => xw6 σ2 a0 ∧ Q r σ2)) := by
  unfold wb_X6_hearAsPurse_63 at hw
  refine x_iload_n dX6_hearAsPurse_63 rfl 3 rfl ?_
  refine x_iconst dX6_hearAsPurse_64 cI_4 ?_
  refine x_icmp_ne 93 dX6_hearAsPurse_65 rfl (fun hc20 => ?_) (fun hc20 => ?_)
  · replace hw := hw.2 hc20
    exact x_sub [0, 1, 2, 3] rfl (xb_X6_hearAsPurse_93 hW hw)
  · replace hw := hw.1 hc20
    refine x_aload_n dX6_hearAsPurse_68 rfl 2 rfl ?_
    obtain ⟨hk21, hw⟩ := hw
    refine x_get (ci := 1) (k := 3) (v := va_rf (xh_R σ 67 l2)) dX6_hearAsPurse_69 wF_X6_287 (Nat.le_of_ble_eq_true rfl) (Nat.le_of_ble_eq_true rfl) hk21 rfl ?_
    refine x_ifnull 86 dX6_hearAsPurse_72 rfl (fun hn22 => ?_) (fun a23 hs24 => ?_)
    · replace hw := hw.1 hn22
      exact x_sub [0, 2] rfl (xb_X6_hearAsPurse_86 hW hw)
    · replace hw := hw.2 a23 hs24
      refine x_aload_n dX6_hearAsPurse_75 rfl 2 rfl ?_
      refine x_get (ci := 1) (k := 3) (v := .ref a23) dX6_hearAsPurse_76 wF_X6_287 (Nat.le_of_ble_eq_true rfl) (Nat.le_of_ble_eq_true rfl) hk21 (congrArg va_rf hs24) ?_
      obtain ⟨hk25, hw⟩ := hw
      refine x_get (ci := 3) (k := 2) (v := .int (xh_I σ 194 a23)) dX6_hearAsPurse_79 wF_X6_59 (Nat.le_of_ble_eq_true rfl) (Nat.le_of_ble_eq_true rfl) hk25 rfl ?_
      refine x_iconst dX6_hearAsPurse_82 cI_1 ?_
      refine x_icmp_eq 93 dX6_hearAsPurse_83 rfl (fun hc26 => ?_) (fun hc26 => ?_)
      · replace hw := hw.1 hc26
        exact x_sub [0, 1, 2, 3] rfl (xb_X6_hearAsPurse_93 hW hw)
      · replace hw := hw.2 hc26
        exact x_sub [0, 2] rfl (xb_X6_hearAsPurse_86 hW hw)
def wb_X6_hearAsPurse_56 (Q : Int32 → xS → Prop) (σ : xS) (a0 : Nat) (l2 : Nat) : Prop := xh_k σ l2 = 2 ∧ wp_X1_answer σ l2 3 3 (fun x28 σ29 => xw6 σ29 a0 ∧ (Q x28 σ29))
set_option maxRecDepth 100000 in
set_option maxHeartbeats 4000000 in
theorem xb_X6_hearAsPurse_56 {Q : Int32 → xS → Prop} {σ : xS} {a0 : Nat}  {l2 : Nat} (hW : xw6 σ a0)  (hw : wb_X6_hearAsPurse_56 Q σ a0 l2) : xX M_X6_hearAsPurse 56 [(0, .ref a0), (2, .ref l2)] [] σ (xqI (fun r σ2 => xw6 σ2 a0 ∧ Q r σ2)) := by
  unfold wb_X6_hearAsPurse_56 at hw
  refine x_aload_n dX6_hearAsPurse_56 rfl 1 rfl ?_
  refine x_iconst dX6_hearAsPurse_57 cI_3 ?_
  refine x_iconst dX6_hearAsPurse_58 cI_3 ?_
  obtain ⟨hk27, hw⟩ := hw
  refine x_callV (M2 := M_X1_answer) (As := [.int 3, .int 3]) (st := []) (ci := 1) (Nat.le_of_ble_eq_true rfl) hk27 rfl wM_X6_282 wI_X1_answer wS_X1_answer dX6_hearAsPurse_59 rfl ok_X1_answer ⟨(Nat.le_of_ble_eq_true rfl), (Nat.le_of_ble_eq_true rfl)⟩ (Nat.le_of_ble_eq_true rfl) (ct_X1_answer hk27 hw) (xqI.k (fun x28 σ29 hw2 => ?_))
  obtain ⟨hW, hw⟩ := hw2
  exact x_iret dX6_hearAsPurse_62 rfl ⟨x28, rfl, hW, hw⟩
def wb_X6_hearAsPurse_37 (Q : Int32 → xS → Prop) (σ : xS) (a0 : Nat) (l1 : Nat) (l2 : Nat) (l3 : Int32) (s0 : Int32) : Prop := (l3 = 1 → wb_X6_hearAsPurse_56 Q σ a0 l2) ∧ (¬ l3 = 1 → (s0 = 0 → wb_X6_hearAsPurse_63 Q σ a0 l1 l2 l3) ∧ (¬ s0 = 0 → xh_k σ l2 = 2 ∧ ((0 ≤ (xh_I σ 66 l2) → wb_X6_hearAsPurse_63 Q σ a0 l1 l2 l3) ∧ (¬ 0 ≤ (xh_I σ 66 l2) → wb_X6_hearAsPurse_56 Q σ a0 l2))))
set_option maxRecDepth 100000 in
set_option maxHeartbeats 4000000 in
theorem xb_X6_hearAsPurse_37 {Q : Int32 → xS → Prop} {σ : xS} {a0 : Nat}  {l1 : Nat} {l2 : Nat} {l3 : Int32} {s0 : Int32} (hW : xw6 σ a0)  (hw : wb_X6_hearAsPurse_37 Q σ a0 l1 l2 l3 s0) : xX M_X6_hearAsPurse 37 [(0, .ref a0), (1, .ref l1), (2, .ref l2), (3, .int l3)] [.int s0] σ (xqI (fun r σ2 => xw6 σ2 a0 ∧ Q r σ2)) := by
  unfold wb_X6_hearAsPurse_37 at hw
  refine x_istore [(4, .int s0), (0, .ref a0), (1, .ref l1), (2, .ref l2), (3, .int l3)] dX6_hearAsPurse_37 (Nat.le_of_ble_eq_true rfl) rfl ?_
  refine x_iload_n dX6_hearAsPurse_39 rfl 4 rfl ?_
  refine x_iconst dX6_hearAsPurse_40 cI_1 ?_
  refine x_icmp_eq 56 dX6_hearAsPurse_41 rfl (fun hc30 => ?_) (fun hc30 => ?_)
  · replace hw := hw.1 hc30
    exact x_sub [1, 3] rfl (xb_X6_hearAsPurse_56 hW hw)
  · replace hw := hw.2 hc30
    refine x_iload dX6_hearAsPurse_44 0 rfl ?_
    refine x_if_eq 63 dX6_hearAsPurse_46 rfl (fun hc31 => ?_) (fun hc31 => ?_)
    · replace hw := hw.1 hc31
      exact x_sub [1, 2, 3, 4] rfl (xb_X6_hearAsPurse_63 hW hw)
    · replace hw := hw.2 hc31
      refine x_aload_n dX6_hearAsPurse_49 rfl 3 rfl ?_
      obtain ⟨hk32, hw⟩ := hw
      refine x_get (ci := 1) (k := 2) (v := .int (xh_I σ 66 l2)) dX6_hearAsPurse_50 wF_X6_225 (Nat.le_of_ble_eq_true rfl) (Nat.le_of_ble_eq_true rfl) hk32 rfl ?_
      refine x_if_ge 63 dX6_hearAsPurse_53 rfl (fun hc33 => ?_) (fun hc33 => ?_)
      · replace hw := hw.1 hc33
        exact x_sub [1, 2, 3, 4] rfl (xb_X6_hearAsPurse_63 hW hw)
      · replace hw := hw.2 hc33
        exact x_sub [1, 3] rfl (xb_X6_hearAsPurse_56 hW hw)
def wb_X6_hearAsPurse_32 (Q : Int32 → xS → Prop) (σ : xS) (a0 : Nat) (l1 : Nat) (l2 : Nat) (l3 : Int32) : Prop := wb_X6_hearAsPurse_37 Q σ a0 l1 l2 l3 1
set_option maxRecDepth 100000 in
set_option maxHeartbeats 4000000 in
theorem xb_X6_hearAsPurse_32 {Q : Int32 → xS → Prop} {σ : xS} {a0 : Nat}  {l1 : Nat} {l2 : Nat} {l3 : Int32} (hW : xw6 σ a0)  (hw : wb_X6_hearAsPurse_32 Q σ a0 l1 l2 l3) : xX M_X6_hearAsPurse 32 [(0, .ref a0), (1, .ref l1), (2, .ref l2), (3, .int l3)] [] σ (xqI (fun r σ2 => xw6 σ2 a0 ∧ Q r σ2)) := by
  unfold wb_X6_hearAsPurse_32 at hw
  refine x_iconst dX6_hearAsPurse_32 cI_1 ?_
  refine x_goto 37 dX6_hearAsPurse_33 rfl ?_
  exact x_sub [0, 1, 2, 3] rfl (xb_X6_hearAsPurse_37 hW hw)
def wp_X6_hearAsPurse (σ : xS) (a0 : Nat) (l1 : Nat) (l2 : Nat) (Q : Int32 → xS → Prop) : Prop := ∀ σ34, σ34 = xs_L σ 393 a0 ((xh_L σ 393 a0) + 10) → (xh_k σ34 l2 = 2 ∧ (((xh_I σ34 65 l2) = 2 → wb_X6_hearAsPurse_32 Q σ34 a0 l1 l2 (xh_I σ34 65 l2)) ∧ (¬ (xh_I σ34 65 l2) = 2 → ((xh_I σ34 65 l2) = 3 → wb_X6_hearAsPurse_32 Q σ34 a0 l1 l2 (xh_I σ34 65 l2)) ∧ (¬ (xh_I σ34 65 l2) = 3 → ((xh_I σ34 65 l2) = 4 → wb_X6_hearAsPurse_32 Q σ34 a0 l1 l2 (xh_I σ34 65 l2)) ∧ (¬ (xh_I σ34 65 l2) = 4 → wb_X6_hearAsPurse_37 Q σ34 a0 l1 l2 (xh_I σ34 65 l2) 0)))))
set_option maxRecDepth 100000 in
set_option maxHeartbeats 4000000 in
theorem ct_X6_hearAsPurse {σ : xS} {a0 : Nat}  {l1 : Nat} {l2 : Nat} {Q : Int32 → xS → Prop} (hW : xw6 σ a0) (hw : wp_X6_hearAsPurse σ a0 l1 l2 Q) : xCt M_X6_hearAsPurse [.ref a0, .ref l1, .ref l2] σ (xqI (fun r σ2 => xw6 σ2 a0 ∧ Q r σ2)) := by
  refine xCt_ofL (lv := [(0, .ref a0), (1, .ref l1), (2, .ref l2)]) pn_X6 (Nat.le_of_ble_eq_true rfl) rfl ?_
  unfold wp_X6_hearAsPurse at hw
  refine x_aload_n dX6_hearAsPurse_0 rfl 0 rfl ?_
  refine x_dup dX6_hearAsPurse_1 rfl ?_
  refine x_get (ci := 6) (k := 9) (v := .long (xh_L σ 393 a0)) dX6_hearAsPurse_2 wF_X6_253 (Nat.le_of_ble_eq_true rfl) (Nat.le_of_ble_eq_true rfl) hW.1 rfl ?_
  refine x_ldc2 dX6_hearAsPurse_5 wL_X6_285 ?_
  refine x_ladd dX6_hearAsPurse_8 ?_
  refine x_putLN (ci := 6) (k := 9) (f := 393) dX6_hearAsPurse_9 wF_X6_253 (Nat.le_of_ble_eq_true rfl) (Nat.le_of_ble_eq_true rfl) hW.1 (Or.inl rfl) rfl rfl (fun σ34 hσ34 => ?_)
  replace hw := hw σ34 hσ34
  refine x_aload_n dX6_hearAsPurse_12 rfl 2 rfl ?_
  obtain ⟨hk35, hw⟩ := hw
  refine x_get (ci := 1) (k := 1) (v := .int (xh_I σ34 65 l2)) dX6_hearAsPurse_13 wF_X6_219 (Nat.le_of_ble_eq_true rfl) (Nat.le_of_ble_eq_true rfl) hk35 rfl ?_
  refine x_istore_n [(3, .int (xh_I σ34 65 l2)), (0, .ref a0), (1, .ref l1), (2, .ref l2)] dX6_hearAsPurse_16 rfl (Nat.le_of_ble_eq_true rfl) rfl ?_
  refine x_iload_n dX6_hearAsPurse_17 rfl 0 rfl ?_
  refine x_iconst dX6_hearAsPurse_18 cI_2 ?_
  refine x_icmp_eq 32 dX6_hearAsPurse_19 rfl (fun hc36 => ?_) (fun hc36 => ?_)
  · replace hw := hw.1 hc36
    have hW := (xw6_L hσ34 hW)
    exact x_sub [1, 2, 3, 0] rfl (xb_X6_hearAsPurse_32 hW hw)
  · replace hw := hw.2 hc36
    refine x_iload_n dX6_hearAsPurse_22 rfl 0 rfl ?_
    refine x_iconst dX6_hearAsPurse_23 cI_3 ?_
    refine x_icmp_eq 32 dX6_hearAsPurse_24 rfl (fun hc37 => ?_) (fun hc37 => ?_)
    · replace hw := hw.1 hc37
      have hW := (xw6_L hσ34 hW)
      exact x_sub [1, 2, 3, 0] rfl (xb_X6_hearAsPurse_32 hW hw)
    · replace hw := hw.2 hc37
      refine x_iload_n dX6_hearAsPurse_27 rfl 0 rfl ?_
      refine x_iconst dX6_hearAsPurse_28 cI_4 ?_
      refine x_icmp_ne 36 dX6_hearAsPurse_29 rfl (fun hc38 => ?_) (fun hc38 => ?_)
      · replace hw := hw.2 hc38
        refine x_iconst dX6_hearAsPurse_36 cI_0 ?_
        have hW := (xw6_L hσ34 hW)
        exact x_sub [1, 2, 3, 0] rfl (xb_X6_hearAsPurse_37 hW hw)
      · replace hw := hw.1 hc38
        have hW := (xw6_L hσ34 hW)
        exact x_sub [1, 2, 3, 0] rfl (xb_X6_hearAsPurse_32 hW hw)
-- PromiseWire.hearAsMaker(LPromiseWire$Thing;LPromiseWire$Message;)I
def wb_X6_hearAsMaker_71 (Q : Int32 → xS → Prop) (σ : xS) (a0 : Nat) (l2 : Nat) : Prop := xh_k σ l2 = 2 ∧ wp_X1_answer σ l2 3 3 (fun x2 σ3 => xw6 σ3 a0 ∧ (Q x2 σ3))
set_option maxRecDepth 100000 in
set_option maxHeartbeats 4000000 in
theorem xb_X6_hearAsMaker_71 {Q : Int32 → xS → Prop} {σ : xS} {a0 : Nat}  {l2 : Nat} (hW : xw6 σ a0)  (hw : wb_X6_hearAsMaker_71 Q σ a0 l2) : xX M_X6_hearAsMaker 71 [(0, .ref a0), (2, .ref l2)] [] σ (xqI (fun r σ2 => xw6 σ2 a0 ∧ Q r σ2)) := by
  unfold wb_X6_hearAsMaker_71 at hw
  refine x_aload_n dX6_hearAsMaker_71 rfl 1 rfl ?_
  refine x_iconst dX6_hearAsMaker_72 cI_3 ?_
  refine x_iconst dX6_hearAsMaker_73 cI_3 ?_
  obtain ⟨hk1, hw⟩ := hw
  refine x_callV (M2 := M_X1_answer) (As := [.int 3, .int 3]) (st := []) (ci := 1) (Nat.le_of_ble_eq_true rfl) hk1 rfl wM_X6_282 wI_X1_answer wS_X1_answer dX6_hearAsMaker_74 rfl ok_X1_answer ⟨(Nat.le_of_ble_eq_true rfl), (Nat.le_of_ble_eq_true rfl)⟩ (Nat.le_of_ble_eq_true rfl) (ct_X1_answer hk1 hw) (xqI.k (fun x2 σ3 hw2 => ?_))
  obtain ⟨hW, hw⟩ := hw2
  exact x_iret dX6_hearAsMaker_77 rfl ⟨x2, rfl, hW, hw⟩
def wp_X6_hearAsMaker (σ : xS) (a0 : Nat) (l1 : Nat) (l2 : Nat) (Q : Int32 → xS → Prop) : Prop := ∀ σ4, σ4 = xs_L σ 393 a0 ((xh_L σ 393 a0) + 100) → (xh_k σ4 l2 = 2 ∧ (((xh_I σ4 65 l2) = 0 → xh_k σ4 l1 = 4 ∧ (wp_X1_answer σ4 l2 1 (xh_I σ4 198 l1) (fun x27 σ28 => xw6 σ28 a0 ∧ (Q x27 σ28)))) ∧ (¬ (xh_I σ4 65 l2) = 0 → ((xh_I σ4 65 l2) = 7 → xh_k σ4 l1 = 4 ∧ (wp_X1_answer σ4 l2 2 (xh_I σ4 192 l1) (fun x24 σ25 => xw6 σ25 a0 ∧ (Q x24 σ25)))) ∧ (¬ (xh_I σ4 65 l2) = 7 → ((xh_I σ4 65 l2) = 5 → ((xh_I σ4 66 l2) < 0 → wb_X6_hearAsMaker_71 Q σ4 a0 l2) ∧ (¬ (xh_I σ4 66 l2) < 0 → ((xh_I σ4 66 l2) ≤ 2 → xh_k σ4 l1 = 4 ∧ (wp_X6_addThing σ4 a0 (xh_I σ4 193 l1) (xh_I σ4 66 l2) 0 none 0 (fun x12 σ13 => (x12 = (-3) → xh_k σ13 l2 = 2 ∧ wp_X1_answer σ13 l2 3 5 (fun x21 σ22 => xw6 σ22 a0 ∧ (Q x21 σ22))) ∧ (¬ x12 = (-3) → xh_k σ13 l1 = 4 ∧ (∀ σ16, σ16 = xs_I σ13 198 l1 ((xh_I σ13 198 l1) + 1) → (xh_k σ16 l2 = 2 ∧ wp_X1_answer σ16 l2 2 x12 (fun x18 σ19 => xw6 σ19 a0 ∧ (Q x18 σ19)))))))) ∧ (¬ (xh_I σ4 66 l2) ≤ 2 → wb_X6_hearAsMaker_71 Q σ4 a0 l2))) ∧ (¬ (xh_I σ4 65 l2) = 5 → wb_X6_hearAsMaker_71 Q σ4 a0 l2)))))
set_option maxRecDepth 100000 in
set_option maxHeartbeats 4000000 in
theorem ct_X6_hearAsMaker {σ : xS} {a0 : Nat}  {l1 : Nat} {l2 : Nat} {Q : Int32 → xS → Prop} (hW : xw6 σ a0) (hw : wp_X6_hearAsMaker σ a0 l1 l2 Q) : xCt M_X6_hearAsMaker [.ref a0, .ref l1, .ref l2] σ (xqI (fun r σ2 => xw6 σ2 a0 ∧ Q r σ2)) := by
  refine xCt_ofL (lv := [(0, .ref a0), (1, .ref l1), (2, .ref l2)]) pn_X6 (Nat.le_of_ble_eq_true rfl) rfl ?_
  unfold wp_X6_hearAsMaker at hw
  refine x_aload_n dX6_hearAsMaker_0 rfl 0 rfl ?_
  refine x_dup dX6_hearAsMaker_1 rfl ?_
  refine x_get (ci := 6) (k := 9) (v := .long (xh_L σ 393 a0)) dX6_hearAsMaker_2 wF_X6_253 (Nat.le_of_ble_eq_true rfl) (Nat.le_of_ble_eq_true rfl) hW.1 rfl ?_
  refine x_ldc2 dX6_hearAsMaker_5 wL_X6_293 ?_
  refine x_ladd dX6_hearAsMaker_8 ?_
  refine x_putLN (ci := 6) (k := 9) (f := 393) dX6_hearAsMaker_9 wF_X6_253 (Nat.le_of_ble_eq_true rfl) (Nat.le_of_ble_eq_true rfl) hW.1 (Or.inl rfl) rfl rfl (fun σ4 hσ4 => ?_)
  replace hw := hw σ4 hσ4
  refine x_aload_n dX6_hearAsMaker_12 rfl 2 rfl ?_
  obtain ⟨hk5, hw⟩ := hw
  refine x_get (ci := 1) (k := 1) (v := .int (xh_I σ4 65 l2)) dX6_hearAsMaker_13 wF_X6_219 (Nat.le_of_ble_eq_true rfl) (Nat.le_of_ble_eq_true rfl) hk5 rfl ?_
  refine x_if_ne 29 dX6_hearAsMaker_16 rfl (fun hc6 => ?_) (fun hc6 => ?_)
  · replace hw := hw.2 hc6
    refine x_aload_n dX6_hearAsMaker_29 rfl 2 rfl ?_
    refine x_get (ci := 1) (k := 1) (v := .int (xh_I σ4 65 l2)) dX6_hearAsMaker_30 wF_X6_219 (Nat.le_of_ble_eq_true rfl) (Nat.le_of_ble_eq_true rfl) hk5 rfl ?_
    refine x_bipush dX6_hearAsMaker_33 cB_7 ?_
    refine x_icmp_ne 48 dX6_hearAsMaker_35 rfl (fun hc7 => ?_) (fun hc7 => ?_)
    · replace hw := hw.2 hc7
      refine x_aload_n dX6_hearAsMaker_48 rfl 2 rfl ?_
      refine x_get (ci := 1) (k := 1) (v := .int (xh_I σ4 65 l2)) dX6_hearAsMaker_49 wF_X6_219 (Nat.le_of_ble_eq_true rfl) (Nat.le_of_ble_eq_true rfl) hk5 rfl ?_
      refine x_iconst dX6_hearAsMaker_52 cI_5 ?_
      refine x_icmp_ne 71 dX6_hearAsMaker_53 rfl (fun hc8 => ?_) (fun hc8 => ?_)
      · replace hw := hw.2 hc8
        have hW := (xw6_L hσ4 hW)
        exact x_sub [0, 2] rfl (xb_X6_hearAsMaker_71 hW hw)
      · replace hw := hw.1 hc8
        refine x_aload_n dX6_hearAsMaker_56 rfl 2 rfl ?_
        refine x_get (ci := 1) (k := 2) (v := .int (xh_I σ4 66 l2)) dX6_hearAsMaker_57 wF_X6_225 (Nat.le_of_ble_eq_true rfl) (Nat.le_of_ble_eq_true rfl) hk5 rfl ?_
        refine x_if_lt 71 dX6_hearAsMaker_60 rfl (fun hc9 => ?_) (fun hc9 => ?_)
        · replace hw := hw.1 hc9
          have hW := (xw6_L hσ4 hW)
          exact x_sub [0, 2] rfl (xb_X6_hearAsMaker_71 hW hw)
        · replace hw := hw.2 hc9
          refine x_aload_n dX6_hearAsMaker_63 rfl 2 rfl ?_
          refine x_get (ci := 1) (k := 2) (v := .int (xh_I σ4 66 l2)) dX6_hearAsMaker_64 wF_X6_225 (Nat.le_of_ble_eq_true rfl) (Nat.le_of_ble_eq_true rfl) hk5 rfl ?_
          refine x_iconst dX6_hearAsMaker_67 cI_2 ?_
          refine x_icmp_le 78 dX6_hearAsMaker_68 rfl (fun hc10 => ?_) (fun hc10 => ?_)
          · replace hw := hw.1 hc10
            refine x_aload_n dX6_hearAsMaker_78 rfl 0 rfl ?_
            refine x_aload_n dX6_hearAsMaker_79 rfl 1 rfl ?_
            obtain ⟨hk11, hw⟩ := hw
            refine x_get (ci := 3) (k := 1) (v := .int (xh_I σ4 193 l1)) dX6_hearAsMaker_80 wF_X6_81 (Nat.le_of_ble_eq_true rfl) (Nat.le_of_ble_eq_true rfl) hk11 rfl ?_
            refine x_aload_n dX6_hearAsMaker_83 rfl 2 rfl ?_
            refine x_get (ci := 1) (k := 2) (v := .int (xh_I σ4 66 l2)) dX6_hearAsMaker_84 wF_X6_225 (Nat.le_of_ble_eq_true rfl) (Nat.le_of_ble_eq_true rfl) hk5 rfl ?_
            refine x_iconst dX6_hearAsMaker_87 cI_0 ?_
            refine x_null dX6_hearAsMaker_88 ?_
            refine x_iconst dX6_hearAsMaker_89 cI_0 ?_
            have hW := (xw6_L hσ4 hW)
            refine x_callV (M2 := M_X6_addThing) (As := [.int (xh_I σ4 193 l1), .int (xh_I σ4 66 l2), .int 0, va_rf none, .int 0]) (st := []) (ci := 6) (Nat.le_of_ble_eq_true rfl) hW.1 rfl wM_X6_51 wI_X6_addThing wS_X6_addThing dX6_hearAsMaker_90 rfl ok_X6_addThing ⟨(Nat.le_of_ble_eq_true rfl), (Nat.le_of_ble_eq_true rfl)⟩ (Nat.le_of_ble_eq_true rfl) (ct_X6_addThing hW hw) (xqI.k (fun x12 σ13 hw2 => ?_))
            obtain ⟨hW, hw⟩ := hw2
            refine x_istore_n [(3, .int x12), (0, .ref a0), (1, .ref l1), (2, .ref l2)] dX6_hearAsMaker_93 rfl (Nat.le_of_ble_eq_true rfl) rfl ?_
            refine x_iload_n dX6_hearAsMaker_94 rfl 0 rfl ?_
            refine x_bipush dX6_hearAsMaker_95 cB_m3 ?_
            refine x_icmp_ne 107 dX6_hearAsMaker_97 rfl (fun hc14 => ?_) (fun hc14 => ?_)
            · replace hw := hw.2 hc14
              refine x_aload_n dX6_hearAsMaker_107 rfl 2 rfl ?_
              refine x_dup dX6_hearAsMaker_108 rfl ?_
              obtain ⟨hk15, hw⟩ := hw
              refine x_get (ci := 3) (k := 6) (v := .int (xh_I σ13 198 l1)) dX6_hearAsMaker_109 wF_X6_84 (Nat.le_of_ble_eq_true rfl) (Nat.le_of_ble_eq_true rfl) hk15 rfl ?_
              refine x_iconst dX6_hearAsMaker_112 cI_1 ?_
              refine x_iadd dX6_hearAsMaker_113 ?_
              refine x_putIN (ci := 3) (k := 6) (f := 198) dX6_hearAsMaker_114 wF_X6_84 (Nat.le_of_ble_eq_true rfl) (Nat.le_of_ble_eq_true rfl) hk15 (Or.inl rfl) rfl (Or.inl rfl) (fun σ16 hσ16 => ?_)
              replace hw := hw σ16 hσ16
              refine x_aload_n dX6_hearAsMaker_117 rfl 3 rfl ?_
              refine x_iconst dX6_hearAsMaker_118 cI_2 ?_
              refine x_iload_n dX6_hearAsMaker_119 rfl 0 rfl ?_
              obtain ⟨hk17, hw⟩ := hw
              refine x_callV (M2 := M_X1_answer) (As := [.int 2, .int x12]) (st := []) (ci := 1) (Nat.le_of_ble_eq_true rfl) hk17 rfl wM_X6_282 wI_X1_answer wS_X1_answer dX6_hearAsMaker_120 rfl ok_X1_answer ⟨(Nat.le_of_ble_eq_true rfl), (Nat.le_of_ble_eq_true rfl)⟩ (Nat.le_of_ble_eq_true rfl) (ct_X1_answer hk17 hw) (xqI.k (fun x18 σ19 hw2 => ?_))
              obtain ⟨hW, hw⟩ := hw2
              exact x_iret dX6_hearAsMaker_123 rfl ⟨x18, rfl, hW, hw⟩
            · replace hw := hw.1 hc14
              refine x_aload_n dX6_hearAsMaker_100 rfl 3 rfl ?_
              refine x_iconst dX6_hearAsMaker_101 cI_3 ?_
              refine x_iconst dX6_hearAsMaker_102 cI_5 ?_
              obtain ⟨hk20, hw⟩ := hw
              refine x_callV (M2 := M_X1_answer) (As := [.int 3, .int 5]) (st := []) (ci := 1) (Nat.le_of_ble_eq_true rfl) hk20 rfl wM_X6_282 wI_X1_answer wS_X1_answer dX6_hearAsMaker_103 rfl ok_X1_answer ⟨(Nat.le_of_ble_eq_true rfl), (Nat.le_of_ble_eq_true rfl)⟩ (Nat.le_of_ble_eq_true rfl) (ct_X1_answer hk20 hw) (xqI.k (fun x21 σ22 hw2 => ?_))
              obtain ⟨hW, hw⟩ := hw2
              exact x_iret dX6_hearAsMaker_106 rfl ⟨x21, rfl, hW, hw⟩
          · replace hw := hw.2 hc10
            have hW := (xw6_L hσ4 hW)
            exact x_sub [0, 2] rfl (xb_X6_hearAsMaker_71 hW hw)
    · replace hw := hw.1 hc7
      refine x_aload_n dX6_hearAsMaker_38 rfl 2 rfl ?_
      refine x_iconst dX6_hearAsMaker_39 cI_2 ?_
      refine x_aload_n dX6_hearAsMaker_40 rfl 1 rfl ?_
      obtain ⟨hk23, hw⟩ := hw
      refine x_get (ci := 3) (k := 0) (v := .int (xh_I σ4 192 l1)) dX6_hearAsMaker_41 wF_X6_91 (Nat.le_of_ble_eq_true rfl) (Nat.le_of_ble_eq_true rfl) hk23 rfl ?_
      refine x_callV (M2 := M_X1_answer) (As := [.int 2, .int (xh_I σ4 192 l1)]) (st := []) (ci := 1) (Nat.le_of_ble_eq_true rfl) hk5 rfl wM_X6_282 wI_X1_answer wS_X1_answer dX6_hearAsMaker_44 rfl ok_X1_answer ⟨(Nat.le_of_ble_eq_true rfl), (Nat.le_of_ble_eq_true rfl)⟩ (Nat.le_of_ble_eq_true rfl) (ct_X1_answer hk5 hw) (xqI.k (fun x24 σ25 hw2 => ?_))
      obtain ⟨hW, hw⟩ := hw2
      exact x_iret dX6_hearAsMaker_47 rfl ⟨x24, rfl, hW, hw⟩
  · replace hw := hw.1 hc6
    refine x_aload_n dX6_hearAsMaker_19 rfl 2 rfl ?_
    refine x_iconst dX6_hearAsMaker_20 cI_1 ?_
    refine x_aload_n dX6_hearAsMaker_21 rfl 1 rfl ?_
    obtain ⟨hk26, hw⟩ := hw
    refine x_get (ci := 3) (k := 6) (v := .int (xh_I σ4 198 l1)) dX6_hearAsMaker_22 wF_X6_84 (Nat.le_of_ble_eq_true rfl) (Nat.le_of_ble_eq_true rfl) hk26 rfl ?_
    refine x_callV (M2 := M_X1_answer) (As := [.int 1, .int (xh_I σ4 198 l1)]) (st := []) (ci := 1) (Nat.le_of_ble_eq_true rfl) hk5 rfl wM_X6_282 wI_X1_answer wS_X1_answer dX6_hearAsMaker_25 rfl ok_X1_answer ⟨(Nat.le_of_ble_eq_true rfl), (Nat.le_of_ble_eq_true rfl)⟩ (Nat.le_of_ble_eq_true rfl) (ct_X1_answer hk5 hw) (xqI.k (fun x27 σ28 hw2 => ?_))
    obtain ⟨hW, hw⟩ := hw2
    exact x_iret dX6_hearAsMaker_28 rfl ⟨x27, rfl, hW, hw⟩
-- PromiseWire.hearAsGuard(LPromiseWire$Thing;LPromiseWire$Message;)I
def wp_X6_hearAsGuard (σ : xS) (a0 : Nat) (l1 : Nat) (l2 : Nat) (Q : Int32 → xS → Prop) : Prop := ∀ σ1, σ1 = xs_L σ 393 a0 ((xh_L σ 393 a0) + 1000) → (xh_k σ1 l1 = 4 ∧ (((xh_I σ1 199 l1) = 0 → xh_k σ1 l2 = 2 ∧ (((((xh_I σ1 196 l1) >>> ((xh_I σ1 65 l2) &&& 31)) &&& 1) = 0 → wp_X1_answer σ1 l2 3 3 (fun x7 σ8 => xw6 σ8 a0 ∧ (Q x7 σ8))) ∧ (¬ (((xh_I σ1 196 l1) >>> ((xh_I σ1 65 l2) &&& 31)) &&& 1) = 0 → ∀ σ6, σ6 = xs_R σ1 68 l2 (xh_R σ1 195 l1) → (Q 3 σ6)))) ∧ (¬ (xh_I σ1 199 l1) = 0 → xh_k σ1 l2 = 2 ∧ wp_X1_answer σ1 l2 3 4 (fun x10 σ11 => xw6 σ11 a0 ∧ (Q x10 σ11)))))
set_option maxRecDepth 100000 in
set_option maxHeartbeats 4000000 in
theorem ct_X6_hearAsGuard {σ : xS} {a0 : Nat}  {l1 : Nat} {l2 : Nat} {Q : Int32 → xS → Prop} (hW : xw6 σ a0) (hw : wp_X6_hearAsGuard σ a0 l1 l2 Q) : xCt M_X6_hearAsGuard [.ref a0, .ref l1, .ref l2] σ (xqI (fun r σ2 => xw6 σ2 a0 ∧ Q r σ2)) := by
  refine xCt_ofL (lv := [(0, .ref a0), (1, .ref l1), (2, .ref l2)]) pn_X6 (Nat.le_of_ble_eq_true rfl) rfl ?_
  unfold wp_X6_hearAsGuard at hw
  refine x_aload_n dX6_hearAsGuard_0 rfl 0 rfl ?_
  refine x_dup dX6_hearAsGuard_1 rfl ?_
  refine x_get (ci := 6) (k := 9) (v := .long (xh_L σ 393 a0)) dX6_hearAsGuard_2 wF_X6_253 (Nat.le_of_ble_eq_true rfl) (Nat.le_of_ble_eq_true rfl) hW.1 rfl ?_
  refine x_ldc2 dX6_hearAsGuard_5 wL_X6_295 ?_
  refine x_ladd dX6_hearAsGuard_8 ?_
  refine x_putLN (ci := 6) (k := 9) (f := 393) dX6_hearAsGuard_9 wF_X6_253 (Nat.le_of_ble_eq_true rfl) (Nat.le_of_ble_eq_true rfl) hW.1 (Or.inl rfl) rfl rfl (fun σ1 hσ1 => ?_)
  replace hw := hw σ1 hσ1
  refine x_aload_n dX6_hearAsGuard_12 rfl 1 rfl ?_
  obtain ⟨hk2, hw⟩ := hw
  refine x_get (ci := 3) (k := 7) (v := .int (xh_I σ1 199 l1)) dX6_hearAsGuard_13 wF_X6_63 (Nat.le_of_ble_eq_true rfl) (Nat.le_of_ble_eq_true rfl) hk2 rfl ?_
  refine x_if_eq 26 dX6_hearAsGuard_16 rfl (fun hc3 => ?_) (fun hc3 => ?_)
  · replace hw := hw.1 hc3
    refine x_aload_n dX6_hearAsGuard_26 rfl 1 rfl ?_
    refine x_get (ci := 3) (k := 4) (v := .int (xh_I σ1 196 l1)) dX6_hearAsGuard_27 wF_X6_94 (Nat.le_of_ble_eq_true rfl) (Nat.le_of_ble_eq_true rfl) hk2 rfl ?_
    refine x_aload_n dX6_hearAsGuard_30 rfl 2 rfl ?_
    obtain ⟨hk4, hw⟩ := hw
    refine x_get (ci := 1) (k := 1) (v := .int (xh_I σ1 65 l2)) dX6_hearAsGuard_31 wF_X6_219 (Nat.le_of_ble_eq_true rfl) (Nat.le_of_ble_eq_true rfl) hk4 rfl ?_
    refine x_ishr dX6_hearAsGuard_34 ?_
    refine x_iconst dX6_hearAsGuard_35 cI_1 ?_
    refine x_iand dX6_hearAsGuard_36 ?_
    refine x_if_ne 47 dX6_hearAsGuard_37 rfl (fun hc5 => ?_) (fun hc5 => ?_)
    · replace hw := hw.2 hc5
      refine x_aload_n dX6_hearAsGuard_47 rfl 2 rfl ?_
      refine x_aload_n dX6_hearAsGuard_48 rfl 1 rfl ?_
      refine x_get (ci := 3) (k := 3) (v := va_rf (xh_R σ1 195 l1)) dX6_hearAsGuard_49 wF_X6_87 (Nat.le_of_ble_eq_true rfl) (Nat.le_of_ble_eq_true rfl) hk2 rfl ?_
      refine x_putRN (r := (xh_R σ1 195 l1)) (ci := 1) (k := 4) (f := 68) dX6_hearAsGuard_52 wF_X6_118 (Nat.le_of_ble_eq_true rfl) (Nat.le_of_ble_eq_true rfl) hk4 (Or.inl rfl) rfl rfl (fun σ6 hσ6 => ?_)
      replace hw := hw σ6 hσ6
      refine x_iconst dX6_hearAsGuard_55 cI_3 ?_
      have hW := (xw6_R (by decide) hσ6 (xw6_L hσ1 hW))
      exact x_iret dX6_hearAsGuard_56 rfl ⟨3, rfl, hW, hw⟩
    · replace hw := hw.1 hc5
      refine x_aload_n dX6_hearAsGuard_40 rfl 2 rfl ?_
      refine x_iconst dX6_hearAsGuard_41 cI_3 ?_
      refine x_iconst dX6_hearAsGuard_42 cI_3 ?_
      refine x_callV (M2 := M_X1_answer) (As := [.int 3, .int 3]) (st := []) (ci := 1) (Nat.le_of_ble_eq_true rfl) hk4 rfl wM_X6_282 wI_X1_answer wS_X1_answer dX6_hearAsGuard_43 rfl ok_X1_answer ⟨(Nat.le_of_ble_eq_true rfl), (Nat.le_of_ble_eq_true rfl)⟩ (Nat.le_of_ble_eq_true rfl) (ct_X1_answer hk4 hw) (xqI.k (fun x7 σ8 hw2 => ?_))
      obtain ⟨hW, hw⟩ := hw2
      exact x_iret dX6_hearAsGuard_46 rfl ⟨x7, rfl, hW, hw⟩
  · replace hw := hw.2 hc3
    refine x_aload_n dX6_hearAsGuard_19 rfl 2 rfl ?_
    refine x_iconst dX6_hearAsGuard_20 cI_3 ?_
    refine x_iconst dX6_hearAsGuard_21 cI_4 ?_
    obtain ⟨hk9, hw⟩ := hw
    refine x_callV (M2 := M_X1_answer) (As := [.int 3, .int 4]) (st := []) (ci := 1) (Nat.le_of_ble_eq_true rfl) hk9 rfl wM_X6_282 wI_X1_answer wS_X1_answer dX6_hearAsGuard_22 rfl ok_X1_answer ⟨(Nat.le_of_ble_eq_true rfl), (Nat.le_of_ble_eq_true rfl)⟩ (Nat.le_of_ble_eq_true rfl) (ct_X1_answer hk9 hw) (xqI.k (fun x10 σ11 hw2 => ?_))
    obtain ⟨hW, hw⟩ := hw2
    exact x_iret dX6_hearAsGuard_25 rfl ⟨x10, rfl, hW, hw⟩
-- PromiseWire.hearAsSwitch(LPromiseWire$Thing;LPromiseWire$Message;)I
def wb_X6_hearAsSwitch_34 (Q : Int32 → xS → Prop) (σ : xS) (a0 : Nat) (s0 : Int32) : Prop := Q s0 σ
set_option maxRecDepth 100000 in
set_option maxHeartbeats 4000000 in
theorem xb_X6_hearAsSwitch_34 {Q : Int32 → xS → Prop} {σ : xS} {a0 : Nat}  {s0 : Int32} (hW : xw6 σ a0)  (hw : wb_X6_hearAsSwitch_34 Q σ a0 s0) : xX M_X6_hearAsSwitch 34 [(0, .ref a0)] [.int s0] σ (xqI (fun r σ2 => xw6 σ2 a0 ∧ Q r σ2)) := by
  unfold wb_X6_hearAsSwitch_34 at hw
  exact x_iret dX6_hearAsSwitch_34 rfl ⟨s0, rfl, hW, hw⟩
def wp_X6_hearAsSwitch (σ : xS) (a0 : Nat) (l1 : Nat) (l2 : Nat) (Q : Int32 → xS → Prop) : Prop := ∀ σ1, σ1 = xs_L σ 393 a0 ((xh_L σ 393 a0) + 10000) → (xh_k σ1 l1 = 4 ∧ (((xh_I σ1 200 l1) = 0 → wp_X6_hearAsGuard σ1 a0 l1 l2 (fun x4 σ5 => wb_X6_hearAsSwitch_34 Q σ5 a0 x4)) ∧ (¬ (xh_I σ1 200 l1) = 0 → xh_k σ1 l2 = 2 ∧ wp_X1_answer σ1 l2 3 4 (fun x7 σ8 => xw6 σ8 a0 ∧ (wb_X6_hearAsSwitch_34 Q σ8 a0 x7)))))
set_option maxRecDepth 100000 in
set_option maxHeartbeats 4000000 in
theorem ct_X6_hearAsSwitch {σ : xS} {a0 : Nat}  {l1 : Nat} {l2 : Nat} {Q : Int32 → xS → Prop} (hW : xw6 σ a0) (hw : wp_X6_hearAsSwitch σ a0 l1 l2 Q) : xCt M_X6_hearAsSwitch [.ref a0, .ref l1, .ref l2] σ (xqI (fun r σ2 => xw6 σ2 a0 ∧ Q r σ2)) := by
  refine xCt_ofL (lv := [(0, .ref a0), (1, .ref l1), (2, .ref l2)]) pn_X6 (Nat.le_of_ble_eq_true rfl) rfl ?_
  unfold wp_X6_hearAsSwitch at hw
  refine x_aload_n dX6_hearAsSwitch_0 rfl 0 rfl ?_
  refine x_dup dX6_hearAsSwitch_1 rfl ?_
  refine x_get (ci := 6) (k := 9) (v := .long (xh_L σ 393 a0)) dX6_hearAsSwitch_2 wF_X6_253 (Nat.le_of_ble_eq_true rfl) (Nat.le_of_ble_eq_true rfl) hW.1 rfl ?_
  refine x_ldc2 dX6_hearAsSwitch_5 wL_X6_297 ?_
  refine x_ladd dX6_hearAsSwitch_8 ?_
  refine x_putLN (ci := 6) (k := 9) (f := 393) dX6_hearAsSwitch_9 wF_X6_253 (Nat.le_of_ble_eq_true rfl) (Nat.le_of_ble_eq_true rfl) hW.1 (Or.inl rfl) rfl rfl (fun σ1 hσ1 => ?_)
  replace hw := hw σ1 hσ1
  refine x_aload_n dX6_hearAsSwitch_12 rfl 1 rfl ?_
  obtain ⟨hk2, hw⟩ := hw
  refine x_get (ci := 3) (k := 8) (v := .int (xh_I σ1 200 l1)) dX6_hearAsSwitch_13 wF_X6_71 (Nat.le_of_ble_eq_true rfl) (Nat.le_of_ble_eq_true rfl) hk2 rfl ?_
  refine x_if_eq 28 dX6_hearAsSwitch_16 rfl (fun hc3 => ?_) (fun hc3 => ?_)
  · replace hw := hw.1 hc3
    refine x_aload_n dX6_hearAsSwitch_28 rfl 0 rfl ?_
    refine x_aload_n dX6_hearAsSwitch_29 rfl 1 rfl ?_
    refine x_aload_n dX6_hearAsSwitch_30 rfl 2 rfl ?_
    have hW := (xw6_L hσ1 hW)
    refine x_callV (M2 := M_X6_hearAsGuard) (As := [.ref l1, .ref l2]) (st := []) (ci := 6) (Nat.le_of_ble_eq_true rfl) hW.1 rfl wM_X6_267 wI_X6_hearAsGuard wS_X6_hearAsGuard dX6_hearAsSwitch_31 rfl ok_X6_hearAsGuard ⟨(Nat.le_of_ble_eq_true rfl), (Nat.le_of_ble_eq_true rfl)⟩ (Nat.le_of_ble_eq_true rfl) (ct_X6_hearAsGuard hW hw) (xqI.k (fun x4 σ5 hw2 => ?_))
    obtain ⟨hW, hw⟩ := hw2
    exact x_sub [0] rfl (xb_X6_hearAsSwitch_34 hW hw)
  · replace hw := hw.2 hc3
    refine x_aload_n dX6_hearAsSwitch_19 rfl 2 rfl ?_
    refine x_iconst dX6_hearAsSwitch_20 cI_3 ?_
    refine x_iconst dX6_hearAsSwitch_21 cI_4 ?_
    obtain ⟨hk6, hw⟩ := hw
    refine x_callV (M2 := M_X1_answer) (As := [.int 3, .int 4]) (st := []) (ci := 1) (Nat.le_of_ble_eq_true rfl) hk6 rfl wM_X6_282 wI_X1_answer wS_X1_answer dX6_hearAsSwitch_22 rfl ok_X1_answer ⟨(Nat.le_of_ble_eq_true rfl), (Nat.le_of_ble_eq_true rfl)⟩ (Nat.le_of_ble_eq_true rfl) (ct_X1_answer hk6 hw) (xqI.k (fun x7 σ8 hw2 => ?_))
    obtain ⟨hW, hw⟩ := hw2
    refine x_goto 34 dX6_hearAsSwitch_25 rfl ?_
    exact x_sub [0] rfl (xb_X6_hearAsSwitch_34 hW hw)
-- PromiseWire.hearAsJoiner(LPromiseWire$Thing;LPromiseWire$Message;)I
def wp_X6_hearAsJoiner (σ : xS) (a0 : Nat) (l1 : Nat) (l2 : Nat) (Q : Int32 → xS → Prop) : Prop := ∀ σ1, σ1 = xs_L σ 393 a0 ((xh_L σ 393 a0) + 100000) → (xh_k σ1 l2 = 2 ∧ (((xh_I σ1 65 l2) = 0 → xh_k σ1 l1 = 4 ∧ ∃ r5, xh_R σ1 197 l1 = some r5 ∧ (xh_k σ1 r5 = 1 ∧ (wp_X1_answer σ1 l2 1 (xh_I σ1 2 r5) (fun x8 σ9 => xw6 σ9 a0 ∧ (Q x8 σ9))))) ∧ (¬ (xh_I σ1 65 l2) = 0 → ((xh_I σ1 65 l2) = 6 → Q 1 σ1) ∧ (¬ (xh_I σ1 65 l2) = 6 → ((xh_I σ1 65 l2) = 7 → xh_k σ1 l1 = 4 ∧ (wp_X1_answer σ1 l2 2 (xh_I σ1 192 l1) (fun x13 σ14 => xw6 σ14 a0 ∧ (Q x13 σ14)))) ∧ (¬ (xh_I σ1 65 l2) = 7 → wp_X1_answer σ1 l2 3 3 (fun x15 σ16 => xw6 σ16 a0 ∧ (Q x15 σ16)))))))
set_option maxRecDepth 100000 in
set_option maxHeartbeats 4000000 in
theorem ct_X6_hearAsJoiner {σ : xS} {a0 : Nat}  {l1 : Nat} {l2 : Nat} {Q : Int32 → xS → Prop} (hW : xw6 σ a0) (hw : wp_X6_hearAsJoiner σ a0 l1 l2 Q) : xCt M_X6_hearAsJoiner [.ref a0, .ref l1, .ref l2] σ (xqI (fun r σ2 => xw6 σ2 a0 ∧ Q r σ2)) := by
  refine xCt_ofL (lv := [(0, .ref a0), (1, .ref l1), (2, .ref l2)]) pn_X6 (Nat.le_of_ble_eq_true rfl) rfl ?_
  unfold wp_X6_hearAsJoiner at hw
  refine x_aload_n dX6_hearAsJoiner_0 rfl 0 rfl ?_
  refine x_dup dX6_hearAsJoiner_1 rfl ?_
  refine x_get (ci := 6) (k := 9) (v := .long (xh_L σ 393 a0)) dX6_hearAsJoiner_2 wF_X6_253 (Nat.le_of_ble_eq_true rfl) (Nat.le_of_ble_eq_true rfl) hW.1 rfl ?_
  refine x_ldc2 dX6_hearAsJoiner_5 wL_X6_299 ?_
  refine x_ladd dX6_hearAsJoiner_8 ?_
  refine x_putLN (ci := 6) (k := 9) (f := 393) dX6_hearAsJoiner_9 wF_X6_253 (Nat.le_of_ble_eq_true rfl) (Nat.le_of_ble_eq_true rfl) hW.1 (Or.inl rfl) rfl rfl (fun σ1 hσ1 => ?_)
  replace hw := hw σ1 hσ1
  refine x_aload_n dX6_hearAsJoiner_12 rfl 2 rfl ?_
  obtain ⟨hk2, hw⟩ := hw
  refine x_get (ci := 1) (k := 1) (v := .int (xh_I σ1 65 l2)) dX6_hearAsJoiner_13 wF_X6_219 (Nat.le_of_ble_eq_true rfl) (Nat.le_of_ble_eq_true rfl) hk2 rfl ?_
  by_cases hc3 : (xh_I σ1 65 l2) = 0
  · replace hw := hw.1 hc3
    refine x_lookup (off := 36) 52 dX6_hearAsJoiner_16 (by decide) (by rw [hc3]; rfl) rfl ?_
    refine x_aload_n dX6_hearAsJoiner_52 rfl 2 rfl ?_
    refine x_iconst dX6_hearAsJoiner_53 cI_1 ?_
    refine x_aload_n dX6_hearAsJoiner_54 rfl 1 rfl ?_
    obtain ⟨hk4, hw⟩ := hw
    obtain ⟨r5, hr6, hw⟩ := hw
    refine x_get (ci := 3) (k := 5) (v := .ref r5) dX6_hearAsJoiner_55 wF_X6_97 (Nat.le_of_ble_eq_true rfl) (Nat.le_of_ble_eq_true rfl) hk4 (congrArg va_rf hr6) ?_
    obtain ⟨hk7, hw⟩ := hw
    refine x_get (ci := 0) (k := 2) (v := .int (xh_I σ1 2 r5)) dX6_hearAsJoiner_58 wF_X6_100 (Nat.le_of_ble_eq_true rfl) (Nat.le_of_ble_eq_true rfl) hk7 rfl ?_
    refine x_callV (M2 := M_X1_answer) (As := [.int 1, .int (xh_I σ1 2 r5)]) (st := []) (ci := 1) (Nat.le_of_ble_eq_true rfl) hk2 rfl wM_X6_282 wI_X1_answer wS_X1_answer dX6_hearAsJoiner_61 rfl ok_X1_answer ⟨(Nat.le_of_ble_eq_true rfl), (Nat.le_of_ble_eq_true rfl)⟩ (Nat.le_of_ble_eq_true rfl) (ct_X1_answer hk2 hw) (xqI.k (fun x8 σ9 hw2 => ?_))
    obtain ⟨hW, hw⟩ := hw2
    exact x_iret dX6_hearAsJoiner_64 rfl ⟨x8, rfl, hW, hw⟩
  · replace hw := hw.2 hc3
    by_cases hc10 : (xh_I σ1 65 l2) = 6
    · replace hw := hw.1 hc10
      refine x_lookup (off := 59) 75 dX6_hearAsJoiner_16 (by decide) (by rw [hc10]; rfl) rfl ?_
      refine x_iconst dX6_hearAsJoiner_75 cI_1 ?_
      have hW := (xw6_L hσ1 hW)
      exact x_iret dX6_hearAsJoiner_76 rfl ⟨1, rfl, hW, hw⟩
    · replace hw := hw.2 hc10
      by_cases hc11 : (xh_I σ1 65 l2) = 7
      · replace hw := hw.1 hc11
        refine x_lookup (off := 49) 65 dX6_hearAsJoiner_16 (by decide) (by rw [hc11]; rfl) rfl ?_
        refine x_aload_n dX6_hearAsJoiner_65 rfl 2 rfl ?_
        refine x_iconst dX6_hearAsJoiner_66 cI_2 ?_
        refine x_aload_n dX6_hearAsJoiner_67 rfl 1 rfl ?_
        obtain ⟨hk12, hw⟩ := hw
        refine x_get (ci := 3) (k := 0) (v := .int (xh_I σ1 192 l1)) dX6_hearAsJoiner_68 wF_X6_91 (Nat.le_of_ble_eq_true rfl) (Nat.le_of_ble_eq_true rfl) hk12 rfl ?_
        refine x_callV (M2 := M_X1_answer) (As := [.int 2, .int (xh_I σ1 192 l1)]) (st := []) (ci := 1) (Nat.le_of_ble_eq_true rfl) hk2 rfl wM_X6_282 wI_X1_answer wS_X1_answer dX6_hearAsJoiner_71 rfl ok_X1_answer ⟨(Nat.le_of_ble_eq_true rfl), (Nat.le_of_ble_eq_true rfl)⟩ (Nat.le_of_ble_eq_true rfl) (ct_X1_answer hk2 hw) (xqI.k (fun x13 σ14 hw2 => ?_))
        obtain ⟨hW, hw⟩ := hw2
        exact x_iret dX6_hearAsJoiner_74 rfl ⟨x13, rfl, hW, hw⟩
      · replace hw := hw.2 hc11
        refine x_lookup (off := 61) 77 dX6_hearAsJoiner_16 (by decide) (xlk3 (xne (by decide) hc3) (xne (by decide) hc10) (xne (by decide) hc11)) rfl ?_
        refine x_aload_n dX6_hearAsJoiner_77 rfl 2 rfl ?_
        refine x_iconst dX6_hearAsJoiner_78 cI_3 ?_
        refine x_iconst dX6_hearAsJoiner_79 cI_3 ?_
        refine x_callV (M2 := M_X1_answer) (As := [.int 3, .int 3]) (st := []) (ci := 1) (Nat.le_of_ble_eq_true rfl) hk2 rfl wM_X6_282 wI_X1_answer wS_X1_answer dX6_hearAsJoiner_80 rfl ok_X1_answer ⟨(Nat.le_of_ble_eq_true rfl), (Nat.le_of_ble_eq_true rfl)⟩ (Nat.le_of_ble_eq_true rfl) (ct_X1_answer hk2 hw) (xqI.k (fun x15 σ16 hw2 => ?_))
        obtain ⟨hW, hw⟩ := hw2
        exact x_iret dX6_hearAsJoiner_83 rfl ⟨x15, rfl, hW, hw⟩
-- PromiseWire.hearAsSleeper(LPromiseWire$Thing;LPromiseWire$Message;)I
def wb_X6_hearAsSleeper_31 (Q : Int32 → xS → Prop) (σ : xS) (a0 : Nat) (s0 : Int32) : Prop := Q s0 σ
set_option maxRecDepth 100000 in
set_option maxHeartbeats 4000000 in
theorem xb_X6_hearAsSleeper_31 {Q : Int32 → xS → Prop} {σ : xS} {a0 : Nat}  {s0 : Int32} (hW : xw6 σ a0)  (hw : wb_X6_hearAsSleeper_31 Q σ a0 s0) : xX M_X6_hearAsSleeper 31 [(0, .ref a0)] [.int s0] σ (xqI (fun r σ2 => xw6 σ2 a0 ∧ Q r σ2)) := by
  unfold wb_X6_hearAsSleeper_31 at hw
  exact x_iret dX6_hearAsSleeper_31 rfl ⟨s0, rfl, hW, hw⟩
def wp_X6_hearAsSleeper (σ : xS) (a0 : Nat) (l1 : Nat) (l2 : Nat) (Q : Int32 → xS → Prop) : Prop := ∀ σ1, σ1 = xs_L σ 393 a0 ((xh_L σ 393 a0) + 1000000) → (xh_k σ1 l2 = 2 ∧ (((xh_I σ1 65 l2) = 6 → wb_X6_hearAsSleeper_31 Q σ1 a0 1) ∧ (¬ (xh_I σ1 65 l2) = 6 → wp_X6_hearAsJoiner σ1 a0 l1 l2 (fun x4 σ5 => wb_X6_hearAsSleeper_31 Q σ5 a0 x4))))
set_option maxRecDepth 100000 in
set_option maxHeartbeats 4000000 in
theorem ct_X6_hearAsSleeper {σ : xS} {a0 : Nat}  {l1 : Nat} {l2 : Nat} {Q : Int32 → xS → Prop} (hW : xw6 σ a0) (hw : wp_X6_hearAsSleeper σ a0 l1 l2 Q) : xCt M_X6_hearAsSleeper [.ref a0, .ref l1, .ref l2] σ (xqI (fun r σ2 => xw6 σ2 a0 ∧ Q r σ2)) := by
  refine xCt_ofL (lv := [(0, .ref a0), (1, .ref l1), (2, .ref l2)]) pn_X6 (Nat.le_of_ble_eq_true rfl) rfl ?_
  unfold wp_X6_hearAsSleeper at hw
  refine x_aload_n dX6_hearAsSleeper_0 rfl 0 rfl ?_
  refine x_dup dX6_hearAsSleeper_1 rfl ?_
  refine x_get (ci := 6) (k := 9) (v := .long (xh_L σ 393 a0)) dX6_hearAsSleeper_2 wF_X6_253 (Nat.le_of_ble_eq_true rfl) (Nat.le_of_ble_eq_true rfl) hW.1 rfl ?_
  refine x_ldc2 dX6_hearAsSleeper_5 wL_X6_301 ?_
  refine x_ladd dX6_hearAsSleeper_8 ?_
  refine x_putLN (ci := 6) (k := 9) (f := 393) dX6_hearAsSleeper_9 wF_X6_253 (Nat.le_of_ble_eq_true rfl) (Nat.le_of_ble_eq_true rfl) hW.1 (Or.inl rfl) rfl rfl (fun σ1 hσ1 => ?_)
  replace hw := hw σ1 hσ1
  refine x_aload_n dX6_hearAsSleeper_12 rfl 2 rfl ?_
  obtain ⟨hk2, hw⟩ := hw
  refine x_get (ci := 1) (k := 1) (v := .int (xh_I σ1 65 l2)) dX6_hearAsSleeper_13 wF_X6_219 (Nat.le_of_ble_eq_true rfl) (Nat.le_of_ble_eq_true rfl) hk2 rfl ?_
  refine x_bipush dX6_hearAsSleeper_16 cB_6 ?_
  refine x_icmp_ne 25 dX6_hearAsSleeper_18 rfl (fun hc3 => ?_) (fun hc3 => ?_)
  · replace hw := hw.2 hc3
    refine x_aload_n dX6_hearAsSleeper_25 rfl 0 rfl ?_
    refine x_aload_n dX6_hearAsSleeper_26 rfl 1 rfl ?_
    refine x_aload_n dX6_hearAsSleeper_27 rfl 2 rfl ?_
    have hW := (xw6_L hσ1 hW)
    refine x_callV (M2 := M_X6_hearAsJoiner) (As := [.ref l1, .ref l2]) (st := []) (ci := 6) (Nat.le_of_ble_eq_true rfl) hW.1 rfl wM_X6_273 wI_X6_hearAsJoiner wS_X6_hearAsJoiner dX6_hearAsSleeper_28 rfl ok_X6_hearAsJoiner ⟨(Nat.le_of_ble_eq_true rfl), (Nat.le_of_ble_eq_true rfl)⟩ (Nat.le_of_ble_eq_true rfl) (ct_X6_hearAsJoiner hW hw) (xqI.k (fun x4 σ5 hw2 => ?_))
    obtain ⟨hW, hw⟩ := hw2
    exact x_sub [0] rfl (xb_X6_hearAsSleeper_31 hW hw)
  · replace hw := hw.1 hc3
    refine x_iconst dX6_hearAsSleeper_21 cI_1 ?_
    refine x_goto 31 dX6_hearAsSleeper_22 rfl ?_
    have hW := (xw6_L hσ1 hW)
    exact x_sub [0] rfl (xb_X6_hearAsSleeper_31 hW hw)
-- PromiseWire.hear(LPromiseWire$Thing;LPromiseWire$Message;)I
def wp_X6_hear (σ : xS) (a0 : Nat) (l1 : Nat) (l2 : Nat) (Q : Int32 → xS → Prop) : Prop := xh_k σ l1 = 4 ∧ (((xh_I σ 194 l1) = 1 → wp_X6_hearAsPurse σ a0 l1 l2 (fun x3 σ4 => Q x3 σ4)) ∧ (¬ (xh_I σ 194 l1) = 1 → ((xh_I σ 194 l1) = 2 → wp_X6_hearAsMaker σ a0 l1 l2 (fun x6 σ7 => Q x6 σ7)) ∧ (¬ (xh_I σ 194 l1) = 2 → ((xh_I σ 194 l1) = 3 → wp_X6_hearAsGuard σ a0 l1 l2 (fun x9 σ10 => Q x9 σ10)) ∧ (¬ (xh_I σ 194 l1) = 3 → ((xh_I σ 194 l1) = 4 → wp_X6_hearAsSwitch σ a0 l1 l2 (fun x12 σ13 => Q x12 σ13)) ∧ (¬ (xh_I σ 194 l1) = 4 → ((xh_I σ 194 l1) = 5 → wp_X6_hearAsJoiner σ a0 l1 l2 (fun x15 σ16 => Q x15 σ16)) ∧ (¬ (xh_I σ 194 l1) = 5 → ((xh_I σ 194 l1) = 6 → wp_X6_hearAsSleeper σ a0 l1 l2 (fun x18 σ19 => Q x18 σ19)) ∧ (¬ (xh_I σ 194 l1) = 6 → wp_X6_hearAsCell σ a0 l1 l2 (fun x20 σ21 => Q x20 σ21))))))))
set_option maxRecDepth 100000 in
set_option maxHeartbeats 4000000 in
theorem ct_X6_hear {σ : xS} {a0 : Nat}  {l1 : Nat} {l2 : Nat} {Q : Int32 → xS → Prop} (hW : xw6 σ a0) (hw : wp_X6_hear σ a0 l1 l2 Q) : xCt M_X6_hear [.ref a0, .ref l1, .ref l2] σ (xqI (fun r σ2 => xw6 σ2 a0 ∧ Q r σ2)) := by
  refine xCt_ofL (lv := [(0, .ref a0), (1, .ref l1), (2, .ref l2)]) pn_X6 (Nat.le_of_ble_eq_true rfl) rfl ?_
  unfold wp_X6_hear at hw
  refine x_aload_n dX6_hear_0 rfl 1 rfl ?_
  obtain ⟨hk1, hw⟩ := hw
  refine x_get (ci := 3) (k := 2) (v := .int (xh_I σ 194 l1)) dX6_hear_1 wF_X6_59 (Nat.le_of_ble_eq_true rfl) (Nat.le_of_ble_eq_true rfl) hk1 rfl ?_
  by_cases hc2 : (xh_I σ 194 l1) = 1
  · replace hw := hw.1 hc2
    refine x_tableIn (off := 40) 44 dX6_hear_4 (by rw [hc2]; decide) (by rw [hc2]; decide) (by rw [hc2]; rfl) rfl ?_
    refine x_aload_n dX6_hear_44 rfl 0 rfl ?_
    refine x_aload_n dX6_hear_45 rfl 1 rfl ?_
    refine x_aload_n dX6_hear_46 rfl 2 rfl ?_
    refine x_callV (M2 := M_X6_hearAsPurse) (As := [.ref l1, .ref l2]) (st := []) (ci := 6) (Nat.le_of_ble_eq_true rfl) hW.1 rfl wM_X6_260 wI_X6_hearAsPurse wS_X6_hearAsPurse dX6_hear_47 rfl ok_X6_hearAsPurse ⟨(Nat.le_of_ble_eq_true rfl), (Nat.le_of_ble_eq_true rfl)⟩ (Nat.le_of_ble_eq_true rfl) (ct_X6_hearAsPurse hW hw) (xqI.k (fun x3 σ4 hw2 => ?_))
    obtain ⟨hW, hw⟩ := hw2
    exact x_iret dX6_hear_50 rfl ⟨x3, rfl, hW, hw⟩
  · replace hw := hw.2 hc2
    by_cases hc5 : (xh_I σ 194 l1) = 2
    · replace hw := hw.1 hc5
      refine x_tableIn (off := 47) 51 dX6_hear_4 (by rw [hc5]; decide) (by rw [hc5]; decide) (by rw [hc5]; rfl) rfl ?_
      refine x_aload_n dX6_hear_51 rfl 0 rfl ?_
      refine x_aload_n dX6_hear_52 rfl 1 rfl ?_
      refine x_aload_n dX6_hear_53 rfl 2 rfl ?_
      refine x_callV (M2 := M_X6_hearAsMaker) (As := [.ref l1, .ref l2]) (st := []) (ci := 6) (Nat.le_of_ble_eq_true rfl) hW.1 rfl wM_X6_264 wI_X6_hearAsMaker wS_X6_hearAsMaker dX6_hear_54 rfl ok_X6_hearAsMaker ⟨(Nat.le_of_ble_eq_true rfl), (Nat.le_of_ble_eq_true rfl)⟩ (Nat.le_of_ble_eq_true rfl) (ct_X6_hearAsMaker hW hw) (xqI.k (fun x6 σ7 hw2 => ?_))
      obtain ⟨hW, hw⟩ := hw2
      exact x_iret dX6_hear_57 rfl ⟨x6, rfl, hW, hw⟩
    · replace hw := hw.2 hc5
      by_cases hc8 : (xh_I σ 194 l1) = 3
      · replace hw := hw.1 hc8
        refine x_tableIn (off := 54) 58 dX6_hear_4 (by rw [hc8]; decide) (by rw [hc8]; decide) (by rw [hc8]; rfl) rfl ?_
        refine x_aload_n dX6_hear_58 rfl 0 rfl ?_
        refine x_aload_n dX6_hear_59 rfl 1 rfl ?_
        refine x_aload_n dX6_hear_60 rfl 2 rfl ?_
        refine x_callV (M2 := M_X6_hearAsGuard) (As := [.ref l1, .ref l2]) (st := []) (ci := 6) (Nat.le_of_ble_eq_true rfl) hW.1 rfl wM_X6_267 wI_X6_hearAsGuard wS_X6_hearAsGuard dX6_hear_61 rfl ok_X6_hearAsGuard ⟨(Nat.le_of_ble_eq_true rfl), (Nat.le_of_ble_eq_true rfl)⟩ (Nat.le_of_ble_eq_true rfl) (ct_X6_hearAsGuard hW hw) (xqI.k (fun x9 σ10 hw2 => ?_))
        obtain ⟨hW, hw⟩ := hw2
        exact x_iret dX6_hear_64 rfl ⟨x9, rfl, hW, hw⟩
      · replace hw := hw.2 hc8
        by_cases hc11 : (xh_I σ 194 l1) = 4
        · replace hw := hw.1 hc11
          refine x_tableIn (off := 61) 65 dX6_hear_4 (by rw [hc11]; decide) (by rw [hc11]; decide) (by rw [hc11]; rfl) rfl ?_
          refine x_aload_n dX6_hear_65 rfl 0 rfl ?_
          refine x_aload_n dX6_hear_66 rfl 1 rfl ?_
          refine x_aload_n dX6_hear_67 rfl 2 rfl ?_
          refine x_callV (M2 := M_X6_hearAsSwitch) (As := [.ref l1, .ref l2]) (st := []) (ci := 6) (Nat.le_of_ble_eq_true rfl) hW.1 rfl wM_X6_270 wI_X6_hearAsSwitch wS_X6_hearAsSwitch dX6_hear_68 rfl ok_X6_hearAsSwitch ⟨(Nat.le_of_ble_eq_true rfl), (Nat.le_of_ble_eq_true rfl)⟩ (Nat.le_of_ble_eq_true rfl) (ct_X6_hearAsSwitch hW hw) (xqI.k (fun x12 σ13 hw2 => ?_))
          obtain ⟨hW, hw⟩ := hw2
          exact x_iret dX6_hear_71 rfl ⟨x12, rfl, hW, hw⟩
        · replace hw := hw.2 hc11
          by_cases hc14 : (xh_I σ 194 l1) = 5
          · replace hw := hw.1 hc14
            refine x_tableIn (off := 68) 72 dX6_hear_4 (by rw [hc14]; decide) (by rw [hc14]; decide) (by rw [hc14]; rfl) rfl ?_
            refine x_aload_n dX6_hear_72 rfl 0 rfl ?_
            refine x_aload_n dX6_hear_73 rfl 1 rfl ?_
            refine x_aload_n dX6_hear_74 rfl 2 rfl ?_
            refine x_callV (M2 := M_X6_hearAsJoiner) (As := [.ref l1, .ref l2]) (st := []) (ci := 6) (Nat.le_of_ble_eq_true rfl) hW.1 rfl wM_X6_273 wI_X6_hearAsJoiner wS_X6_hearAsJoiner dX6_hear_75 rfl ok_X6_hearAsJoiner ⟨(Nat.le_of_ble_eq_true rfl), (Nat.le_of_ble_eq_true rfl)⟩ (Nat.le_of_ble_eq_true rfl) (ct_X6_hearAsJoiner hW hw) (xqI.k (fun x15 σ16 hw2 => ?_))
            obtain ⟨hW, hw⟩ := hw2
            exact x_iret dX6_hear_78 rfl ⟨x15, rfl, hW, hw⟩
          · replace hw := hw.2 hc14
            by_cases hc17 : (xh_I σ 194 l1) = 6
            · replace hw := hw.1 hc17
              refine x_tableIn (off := 75) 79 dX6_hear_4 (by rw [hc17]; decide) (by rw [hc17]; decide) (by rw [hc17]; rfl) rfl ?_
              refine x_aload_n dX6_hear_79 rfl 0 rfl ?_
              refine x_aload_n dX6_hear_80 rfl 1 rfl ?_
              refine x_aload_n dX6_hear_81 rfl 2 rfl ?_
              refine x_callV (M2 := M_X6_hearAsSleeper) (As := [.ref l1, .ref l2]) (st := []) (ci := 6) (Nat.le_of_ble_eq_true rfl) hW.1 rfl wM_X6_276 wI_X6_hearAsSleeper wS_X6_hearAsSleeper dX6_hear_82 rfl ok_X6_hearAsSleeper ⟨(Nat.le_of_ble_eq_true rfl), (Nat.le_of_ble_eq_true rfl)⟩ (Nat.le_of_ble_eq_true rfl) (ct_X6_hearAsSleeper hW hw) (xqI.k (fun x18 σ19 hw2 => ?_))
              obtain ⟨hW, hw⟩ := hw2
              exact x_iret dX6_hear_85 rfl ⟨x18, rfl, hW, hw⟩
            · replace hw := hw.2 hc17
              refine x_tableOut 86 dX6_hear_4 (xsw_1_6 hc2 hc5 hc8 hc11 hc14 hc17) rfl ?_
              refine x_aload_n dX6_hear_86 rfl 0 rfl ?_
              refine x_aload_n dX6_hear_87 rfl 1 rfl ?_
              refine x_aload_n dX6_hear_88 rfl 2 rfl ?_
              refine x_callV (M2 := M_X6_hearAsCell) (As := [.ref l1, .ref l2]) (st := []) (ci := 6) (Nat.le_of_ble_eq_true rfl) hW.1 rfl wM_X6_279 wI_X6_hearAsCell wS_X6_hearAsCell dX6_hear_89 rfl ok_X6_hearAsCell ⟨(Nat.le_of_ble_eq_true rfl), (Nat.le_of_ble_eq_true rfl)⟩ (Nat.le_of_ble_eq_true rfl) (ct_X6_hearAsCell hW hw) (xqI.k (fun x20 σ21 hw2 => ?_))
              obtain ⟨hW, hw⟩ := hw2
              exact x_iret dX6_hear_92 rfl ⟨x20, rfl, hW, hw⟩
-- PromiseWire.hold(LPromiseWire$Thing;LPromiseWire$Message;)V
def wb_X6_hold_48 (Q : xS → Prop) (σ : xS) (a0 : Nat) : Prop := Q σ
set_option maxRecDepth 100000 in
set_option maxHeartbeats 4000000 in
theorem xb_X6_hold_48 {Q : xS → Prop} {σ : xS} {a0 : Nat}  (hW : xw6 σ a0)  (hw : wb_X6_hold_48 Q σ a0) : xX M_X6_hold 48 [(0, .ref a0)] [] σ (xqV (fun σ2 => xw6 σ2 a0 ∧ Q σ2)) := by
  unfold wb_X6_hold_48 at hw
  exact x_vret dX6_hold_48 rfl ⟨rfl, hW, hw⟩
def wp_X6_hold (σ : xS) (a0 : Nat) (l1 : Nat) (l2 : Nat) (Q : xS → Prop) : Prop := xh_k σ l2 = 2 ∧ ∀ σ2, σ2 = xs_I σ 74 l2 1 → (xh_k σ2 l1 = 4 ∧ ∃ r4, xh_R σ2 197 l1 = some r4 ∧ (xh_k σ2 r4 = 1 ∧ wp_X0_add σ2 r4 l2 (fun σ7 => xw6 σ7 a0 ∧ (xh_k σ7 l1 = 4 ∧ (((xh_I σ7 194 l1) = 5 → ∃ r10, xh_R σ7 197 l1 = some r10 ∧ (xh_k σ7 r10 = 1 ∧ (((xh_I σ7 2 r10) < (xh_I σ7 198 l1) → wb_X6_hold_48 Q σ7 a0) ∧ (¬ (xh_I σ7 2 r10) < (xh_I σ7 198 l1) → wp_X0_sumOfNs σ7 r10 (fun x14 => wp_X6_answerHeld σ7 a0 l1 x14 (fun x16 σ17 => wb_X6_hold_48 Q σ17 a0)))))) ∧ (¬ (xh_I σ7 194 l1) = 5 → wb_X6_hold_48 Q σ7 a0))))))
set_option maxRecDepth 100000 in
set_option maxHeartbeats 4000000 in
theorem ct_X6_hold {σ : xS} {a0 : Nat}  {l1 : Nat} {l2 : Nat} {Q : xS → Prop} (hW : xw6 σ a0) (hw : wp_X6_hold σ a0 l1 l2 Q) : xCt M_X6_hold [.ref a0, .ref l1, .ref l2] σ (xqV (fun σ2 => xw6 σ2 a0 ∧ Q σ2)) := by
  refine xCt_ofL (lv := [(0, .ref a0), (1, .ref l1), (2, .ref l2)]) pn_X6 (Nat.le_of_ble_eq_true rfl) rfl ?_
  unfold wp_X6_hold at hw
  refine x_aload_n dX6_hold_0 rfl 2 rfl ?_
  refine x_iconst dX6_hold_1 cI_1 ?_
  obtain ⟨hk1, hw⟩ := hw
  refine x_putIN (ci := 1) (k := 10) (f := 74) dX6_hold_2 wF_X6_173 (Nat.le_of_ble_eq_true rfl) (Nat.le_of_ble_eq_true rfl) hk1 (Or.inl rfl) rfl (Or.inl rfl) (fun σ2 hσ2 => ?_)
  replace hw := hw σ2 hσ2
  refine x_aload_n dX6_hold_5 rfl 1 rfl ?_
  obtain ⟨hk3, hw⟩ := hw
  obtain ⟨r4, hr5, hw⟩ := hw
  refine x_get (ci := 3) (k := 5) (v := .ref r4) dX6_hold_6 wF_X6_97 (Nat.le_of_ble_eq_true rfl) (Nat.le_of_ble_eq_true rfl) hk3 (congrArg va_rf hr5) ?_
  refine x_aload_n dX6_hold_9 rfl 2 rfl ?_
  obtain ⟨hk6, hw⟩ := hw
  refine x_callV (M2 := M_X0_add) (As := [.ref l2]) (st := []) (ci := 0) (Nat.le_of_ble_eq_true rfl) hk6 rfl wM_X6_313 wI_X0_add wS_X0_add dX6_hold_10 rfl ok_X0_add ⟨(Nat.le_of_ble_eq_true rfl), (Nat.le_of_ble_eq_true rfl)⟩ (Nat.le_of_ble_eq_true rfl) (ct_X0_add hk6 hw) (xqV.k (fun σ7 hw2 => ?_))
  obtain ⟨hW, hw⟩ := hw2
  refine x_aload_n dX6_hold_13 rfl 1 rfl ?_
  obtain ⟨hk8, hw⟩ := hw
  refine x_get (ci := 3) (k := 2) (v := .int (xh_I σ7 194 l1)) dX6_hold_14 wF_X6_59 (Nat.le_of_ble_eq_true rfl) (Nat.le_of_ble_eq_true rfl) hk8 rfl ?_
  refine x_iconst dX6_hold_17 cI_5 ?_
  refine x_icmp_ne 48 dX6_hold_18 rfl (fun hc9 => ?_) (fun hc9 => ?_)
  · replace hw := hw.2 hc9
    exact x_sub [0] rfl (xb_X6_hold_48 hW hw)
  · replace hw := hw.1 hc9
    refine x_aload_n dX6_hold_21 rfl 1 rfl ?_
    obtain ⟨r10, hr11, hw⟩ := hw
    refine x_get (ci := 3) (k := 5) (v := .ref r10) dX6_hold_22 wF_X6_97 (Nat.le_of_ble_eq_true rfl) (Nat.le_of_ble_eq_true rfl) hk8 (congrArg va_rf hr11) ?_
    obtain ⟨hk12, hw⟩ := hw
    refine x_get (ci := 0) (k := 2) (v := .int (xh_I σ7 2 r10)) dX6_hold_25 wF_X6_100 (Nat.le_of_ble_eq_true rfl) (Nat.le_of_ble_eq_true rfl) hk12 rfl ?_
    refine x_aload_n dX6_hold_28 rfl 1 rfl ?_
    refine x_get (ci := 3) (k := 6) (v := .int (xh_I σ7 198 l1)) dX6_hold_29 wF_X6_84 (Nat.le_of_ble_eq_true rfl) (Nat.le_of_ble_eq_true rfl) hk8 rfl ?_
    refine x_icmp_lt 48 dX6_hold_32 rfl (fun hc13 => ?_) (fun hc13 => ?_)
    · replace hw := hw.1 hc13
      exact x_sub [0] rfl (xb_X6_hold_48 hW hw)
    · replace hw := hw.2 hc13
      refine x_aload_n dX6_hold_35 rfl 0 rfl ?_
      refine x_aload_n dX6_hold_36 rfl 1 rfl ?_
      refine x_aload_n dX6_hold_37 rfl 1 rfl ?_
      refine x_get (ci := 3) (k := 5) (v := .ref r10) dX6_hold_38 wF_X6_97 (Nat.le_of_ble_eq_true rfl) (Nat.le_of_ble_eq_true rfl) hk8 (congrArg va_rf hr11) ?_
      refine x_callV (M2 := M_X0_sumOfNs) (As := []) (st := [.ref l1, .ref a0]) (ci := 0) (Nat.le_of_ble_eq_true rfl) hk12 rfl wM_X6_317 wI_X0_sumOfNs wS_X0_sumOfNs dX6_hold_41 rfl ok_X0_sumOfNs ⟨(Nat.le_of_ble_eq_true rfl), (Nat.le_of_ble_eq_true rfl)⟩ (Nat.le_of_ble_eq_true rfl) (ct_X0_sumOfNs hk12 hw) (xqI.k (fun x14 τ15 hw2 => ?_))
      obtain ⟨he, hw⟩ := hw2
      subst he
      refine x_callV (M2 := M_X6_answerHeld) (As := [.ref l1, .int x14]) (st := []) (ci := 6) (Nat.le_of_ble_eq_true rfl) hW.1 rfl wM_X6_74 wI_X6_answerHeld wS_X6_answerHeld dX6_hold_44 rfl ok_X6_answerHeld ⟨(Nat.le_of_ble_eq_true rfl), (Nat.le_of_ble_eq_true rfl)⟩ (Nat.le_of_ble_eq_true rfl) (ct_X6_answerHeld hW hw) (xqI.k (fun x16 σ17 hw2 => ?_))
      obtain ⟨hW, hw⟩ := hw2
      refine x_pop dX6_hold_47 rfl ?_
      exact x_sub [0] rfl (xb_X6_hold_48 hW hw)
