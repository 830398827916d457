-- PromiseWireModel.<init>()V
def wp_X7_init (σ : xS) (a0 : Nat) (Q : xS → Prop) : Prop := xh_n σ < xh_m σ ∧ ∀ σ3, σ3 = xs_arr σ 9 40 → (∀ σ4, σ4 = xs_R σ3 449 a0 (some (xh_n σ)) → (xh_n σ4 < xh_m σ4 ∧ ∀ σ7, σ7 = xs_arr σ4 9 40 → (∀ σ8, σ8 = xs_R σ7 450 a0 (some (xh_n σ4)) → (xh_n σ8 < xh_m σ8 ∧ ∀ σ11, σ11 = xs_arr σ8 9 40 → (∀ σ12, σ12 = xs_R σ11 451 a0 (some (xh_n σ8)) → (xh_n σ12 < xh_m σ12 ∧ ∀ σ15, σ15 = xs_arr σ12 9 40 → (∀ σ16, σ16 = xs_R σ15 452 a0 (some (xh_n σ12)) → (xh_n σ16 < xh_m σ16 ∧ ∀ σ19, σ19 = xs_arr σ16 9 40 → (∀ σ20, σ20 = xs_R σ19 453 a0 (some (xh_n σ16)) → (xh_n σ20 < xh_m σ20 ∧ ∀ σ23, σ23 = xs_arr σ20 10 40 → (∀ σ24, σ24 = xs_R σ23 454 a0 (some (xh_n σ20)) → (xh_n σ24 < xh_m σ24 ∧ ∀ σ27, σ27 = xs_arr σ24 10 40 → (∀ σ28, σ28 = xs_R σ27 455 a0 (some (xh_n σ24)) → (xh_n σ28 < xh_m σ28 ∧ ∀ σ31, σ31 = xs_arr σ28 9 40 → (∀ σ32, σ32 = xs_R σ31 456 a0 (some (xh_n σ28)) → (xh_n σ32 < xh_m σ32 ∧ ∀ σ35, σ35 = xs_arr σ32 9 100 → (∀ σ36, σ36 = xs_R σ35 458 a0 (some (xh_n σ32)) → (xh_n σ36 < xh_m σ36 ∧ ∀ σ39, σ39 = xs_arr σ36 9 100 → (∀ σ40, σ40 = xs_R σ39 459 a0 (some (xh_n σ36)) → (xh_n σ40 < xh_m σ40 ∧ ∀ σ43, σ43 = xs_arr σ40 9 100 → (∀ σ44, σ44 = xs_R σ43 460 a0 (some (xh_n σ40)) → (xh_n σ44 < xh_m σ44 ∧ ∀ σ47, σ47 = xs_arr σ44 9 100 → (∀ σ48, σ48 = xs_R σ47 461 a0 (some (xh_n σ44)) → (xh_n σ48 < xh_m σ48 ∧ ∀ σ51, σ51 = xs_arr σ48 9 100 → (∀ σ52, σ52 = xs_R σ51 462 a0 (some (xh_n σ48)) → (xh_n σ52 < xh_m σ52 ∧ ∀ σ55, σ55 = xs_arr σ52 9 100 → (∀ σ56, σ56 = xs_R σ55 463 a0 (some (xh_n σ52)) → (xh_n σ56 < xh_m σ56 ∧ ∀ σ59, σ59 = xs_arr σ56 9 100 → (∀ σ60, σ60 = xs_R σ59 464 a0 (some (xh_n σ56)) → (xh_n σ60 < xh_m σ60 ∧ ∀ σ63, σ63 = xs_arr σ60 9 100 → (∀ σ64, σ64 = xs_R σ63 465 a0 (some (xh_n σ60)) → (xh_n σ64 < xh_m σ64 ∧ ∀ σ67, σ67 = xs_arr σ64 9 100 → (∀ σ68, σ68 = xs_R σ67 466 a0 (some (xh_n σ64)) → (xh_n σ68 < xh_m σ68 ∧ ∀ σ71, σ71 = xs_arr σ68 9 100 → (∀ σ72, σ72 = xs_R σ71 467 a0 (some (xh_n σ68)) → (xh_n σ72 < xh_m σ72 ∧ ∀ σ75, σ75 = xs_arr σ72 9 100 → (∀ σ76, σ76 = xs_R σ75 468 a0 (some (xh_n σ72)) → (xh_n σ76 < xh_m σ76 ∧ ∀ σ79, σ79 = xs_arr σ76 9 100 → (∀ σ80, σ80 = xs_R σ79 469 a0 (some (xh_n σ76)) → (xh_n σ80 < xh_m σ80 ∧ ∀ σ83, σ83 = xs_arr σ80 9 100 → (∀ σ84, σ84 = xs_R σ83 470 a0 (some (xh_n σ80)) → (xh_n σ84 < xh_m σ84 ∧ ∀ σ87, σ87 = xs_arr σ84 9 100 → (∀ σ88, σ88 = xs_R σ87 471 a0 (some (xh_n σ84)) → (xh_n σ88 < xh_m σ88 ∧ ∀ σ91, σ91 = xs_arr σ88 9 40 → (∀ σ92, σ92 = xs_R σ91 474 a0 (some (xh_n σ88)) → (xh_n σ92 < xh_m σ92 ∧ ∀ σ95, σ95 = xs_arr σ92 9 40 → (∀ σ96, σ96 = xs_R σ95 475 a0 (some (xh_n σ92)) → (xh_n σ96 < xh_m σ96 ∧ ∀ σ99, σ99 = xs_arr σ96 9 40 → (∀ σ100, σ100 = xs_R σ99 476 a0 (some (xh_n σ96)) → (xh_n σ100 < xh_m σ100 ∧ ∀ σ103, σ103 = xs_arr σ100 10 40 → (∀ σ104, σ104 = xs_R σ103 477 a0 (some (xh_n σ100)) → (xh_n σ104 < xh_m σ104 ∧ ∀ σ107, σ107 = xs_arr σ104 9 400 → (∀ σ108, σ108 = xs_R σ107 479 a0 (some (xh_n σ104)) → (xh_n σ108 < xh_m σ108 ∧ ∀ σ111, σ111 = xs_arr σ108 9 400 → (∀ σ112, σ112 = xs_R σ111 480 a0 (some (xh_n σ108)) → (xh_n σ112 < xh_m σ112 ∧ ∀ σ115, σ115 = xs_arr σ112 9 400 → (∀ σ116, σ116 = xs_R σ115 481 a0 (some (xh_n σ112)) → (xh_n σ116 < xh_m σ116 ∧ ∀ σ119, σ119 = xs_arr σ116 9 400 → (∀ σ120, σ120 = xs_R σ119 482 a0 (some (xh_n σ116)) → (xh_n σ120 < xh_m σ120 ∧ ∀ σ123, σ123 = xs_arr σ120 9 400 → (∀ σ124, σ124 = xs_R σ123 483 a0 (some (xh_n σ120)) → (xh_n σ124 < xh_m σ124 ∧ ∀ σ127, σ127 = xs_arr σ124 9 400 → (∀ σ128, σ128 = xs_R σ127 484 a0 (some (xh_n σ124)) → (xh_n σ128 < xh_m σ128 ∧ ∀ σ131, σ131 = xs_arr σ128 9 400 → (∀ σ132, σ132 = xs_R σ131 485 a0 (some (xh_n σ128)) → (xh_n σ132 < xh_m σ132 ∧ ∀ σ135, σ135 = xs_arr σ132 9 400 → (∀ σ136, σ136 = xs_R σ135 486 a0 (some (xh_n σ132)) → (xh_n σ136 < xh_m σ136 ∧ ∀ σ139, σ139 = xs_arr σ136 10 400 → (∀ σ140, σ140 = xs_R σ139 487 a0 (some (xh_n σ136)) → (xh_n σ140 < xh_m σ140 ∧ ∀ σ143, σ143 = xs_arr σ140 10 16 → (∀ σ144, σ144 = xs_R σ143 488 a0 (some (xh_n σ140)) → (xh_n σ144 < xh_m σ144 ∧ ∀ σ147, σ147 = xs_arr σ144 9 400 → (∀ σ148, σ148 = xs_R σ147 490 a0 (some (xh_n σ144)) → (xh_n σ148 < xh_m σ148 ∧ ∀ σ151, σ151 = xs_arr σ148 9 400 → (∀ σ152, σ152 = xs_R σ151 491 a0 (some (xh_n σ148)) → (xh_n σ152 < xh_m σ152 ∧ ∀ σ155, σ155 = xs_arr σ152 9 400 → (∀ σ156, σ156 = xs_R σ155 492 a0 (some (xh_n σ152)) → (∀ σ157, σ157 = xs_I σ156 448 a0 0 → (Q σ157)))))))))))))))))))))))))))))))))))))))))))))))))))))))))))))))))))))))))))))))
set_option maxRecDepth 100000 in
set_option maxHeartbeats 4000000 in
theorem ct_X7_init {σ : xS} {a0 : Nat}  {Q : xS → Prop} (hk0 : xh_k σ a0 = 8) (hw : wp_X7_init σ a0 Q) : xCt M_X7_init [.ref a0] σ (xqV (fun σ2 => Q σ2)) := by
  refine xCt_ofL (lv := [(0, .ref a0)]) pn_X7 (Nat.le_of_ble_eq_true rfl) rfl ?_
  unfold wp_X7_init at hw
  refine x_aload_n dX7_init_0 rfl 0 rfl ?_
  refine x_objInit dX7_init_1 wO_X7_1 wI_obj wC_obj (Nat.le_of_ble_eq_true rfl) (Nat.le_of_ble_eq_true rfl) (Nat.le_of_ble_eq_true rfl) ?_
  refine x_aload_n dX7_init_4 rfl 0 rfl ?_
  refine x_bipush dX7_init_5 cB_40 ?_
  refine x_fresh (fun hf1 => ?_)
  obtain ⟨hm2, hw⟩ := hw
  refine x_newIN dX7_init_7 wA_int hm2 (by decide) cN_40 (Nat.le_of_ble_eq_true rfl) (fun σ3 hσ3 => ?_)
  replace hw := hw σ3 hσ3
  refine x_putRN (r := (some (xh_n σ))) (ci := 7) (k := 1) (f := 449) dX7_init_9 wF_X7_7 (Nat.le_of_ble_eq_true rfl) (Nat.le_of_ble_eq_true rfl) (xk_arr hf1 hσ3 hk0) (Or.inr ⟨rfl, rfl, rfl⟩) rfl rfl (fun σ4 hσ4 => ?_)
  replace hw := hw σ4 hσ4
  refine x_aload_n dX7_init_12 rfl 0 rfl ?_
  refine x_bipush dX7_init_13 cB_40 ?_
  refine x_fresh (fun hf5 => ?_)
  obtain ⟨hm6, hw⟩ := hw
  refine x_newIN dX7_init_15 wA_int hm6 (by decide) cN_40 (Nat.le_of_ble_eq_true rfl) (fun σ7 hσ7 => ?_)
  replace hw := hw σ7 hσ7
  refine x_putRN (r := (some (xh_n σ4))) (ci := 7) (k := 2) (f := 450) dX7_init_17 wF_X7_13 (Nat.le_of_ble_eq_true rfl) (Nat.le_of_ble_eq_true rfl) (xk_arr hf5 hσ7 (xk_R hσ4 (xk_arr hf1 hσ3 hk0))) (Or.inr ⟨rfl, rfl, rfl⟩) rfl rfl (fun σ8 hσ8 => ?_)
  replace hw := hw σ8 hσ8
  refine x_aload_n dX7_init_20 rfl 0 rfl ?_
  refine x_bipush dX7_init_21 cB_40 ?_
  refine x_fresh (fun hf9 => ?_)
  obtain ⟨hm10, hw⟩ := hw
  refine x_newIN dX7_init_23 wA_int hm10 (by decide) cN_40 (Nat.le_of_ble_eq_true rfl) (fun σ11 hσ11 => ?_)
  replace hw := hw σ11 hσ11
  refine x_putRN (r := (some (xh_n σ8))) (ci := 7) (k := 3) (f := 451) dX7_init_25 wF_X7_16 (Nat.le_of_ble_eq_true rfl) (Nat.le_of_ble_eq_true rfl) (xk_arr hf9 hσ11 (xk_R hσ8 (xk_arr hf5 hσ7 (xk_R hσ4 (xk_arr hf1 hσ3 hk0))))) (Or.inr ⟨rfl, rfl, rfl⟩) rfl rfl (fun σ12 hσ12 => ?_)
  replace hw := hw σ12 hσ12
  refine x_aload_n dX7_init_28 rfl 0 rfl ?_
  refine x_bipush dX7_init_29 cB_40 ?_
  refine x_fresh (fun hf13 => ?_)
  obtain ⟨hm14, hw⟩ := hw
  refine x_newIN dX7_init_31 wA_int hm14 (by decide) cN_40 (Nat.le_of_ble_eq_true rfl) (fun σ15 hσ15 => ?_)
  replace hw := hw σ15 hσ15
  refine x_putRN (r := (some (xh_n σ12))) (ci := 7) (k := 4) (f := 452) dX7_init_33 wF_X7_19 (Nat.le_of_ble_eq_true rfl) (Nat.le_of_ble_eq_true rfl) (xk_arr hf13 hσ15 (xk_R hσ12 (xk_arr hf9 hσ11 (xk_R hσ8 (xk_arr hf5 hσ7 (xk_R hσ4 (xk_arr hf1 hσ3 hk0))))))) (Or.inr ⟨rfl, rfl, rfl⟩) rfl rfl (fun σ16 hσ16 => ?_)
  replace hw := hw σ16 hσ16
  refine x_aload_n dX7_init_36 rfl 0 rfl ?_
  refine x_bipush dX7_init_37 cB_40 ?_
  refine x_fresh (fun hf17 => ?_)
  obtain ⟨hm18, hw⟩ := hw
  refine x_newIN dX7_init_39 wA_int hm18 (by decide) cN_40 (Nat.le_of_ble_eq_true rfl) (fun σ19 hσ19 => ?_)
  replace hw := hw σ19 hσ19
  refine x_putRN (r := (some (xh_n σ16))) (ci := 7) (k := 5) (f := 453) dX7_init_41 wF_X7_22 (Nat.le_of_ble_eq_true rfl) (Nat.le_of_ble_eq_true rfl) (xk_arr hf17 hσ19 (xk_R hσ16 (xk_arr hf13 hσ15 (xk_R hσ12 (xk_arr hf9 hσ11 (xk_R hσ8 (xk_arr hf5 hσ7 (xk_R hσ4 (xk_arr hf1 hσ3 hk0))))))))) (Or.inr ⟨rfl, rfl, rfl⟩) rfl rfl (fun σ20 hσ20 => ?_)
  replace hw := hw σ20 hσ20
  refine x_aload_n dX7_init_44 rfl 0 rfl ?_
  refine x_bipush dX7_init_45 cB_40 ?_
  refine x_fresh (fun hf21 => ?_)
  obtain ⟨hm22, hw⟩ := hw
  refine x_newZN dX7_init_47 wA_boolean hm22 (by decide) cN_40 (Nat.le_of_ble_eq_true rfl) (fun σ23 hσ23 => ?_)
  replace hw := hw σ23 hσ23
  refine x_putRN (r := (some (xh_n σ20))) (ci := 7) (k := 6) (f := 454) dX7_init_49 wF_X7_25 (Nat.le_of_ble_eq_true rfl) (Nat.le_of_ble_eq_true rfl) (xk_arr hf21 hσ23 (xk_R hσ20 (xk_arr hf17 hσ19 (xk_R hσ16 (xk_arr hf13 hσ15 (xk_R hσ12 (xk_arr hf9 hσ11 (xk_R hσ8 (xk_arr hf5 hσ7 (xk_R hσ4 (xk_arr hf1 hσ3 hk0))))))))))) (Or.inr ⟨rfl, rfl, rfl⟩) rfl rfl (fun σ24 hσ24 => ?_)
  replace hw := hw σ24 hσ24
  refine x_aload_n dX7_init_52 rfl 0 rfl ?_
  refine x_bipush dX7_init_53 cB_40 ?_
  refine x_fresh (fun hf25 => ?_)
  obtain ⟨hm26, hw⟩ := hw
  refine x_newZN dX7_init_55 wA_boolean hm26 (by decide) cN_40 (Nat.le_of_ble_eq_true rfl) (fun σ27 hσ27 => ?_)
  replace hw := hw σ27 hσ27
  refine x_putRN (r := (some (xh_n σ24))) (ci := 7) (k := 7) (f := 455) dX7_init_57 wF_X7_29 (Nat.le_of_ble_eq_true rfl) (Nat.le_of_ble_eq_true rfl) (xk_arr hf25 hσ27 (xk_R hσ24 (xk_arr hf21 hσ23 (xk_R hσ20 (xk_arr hf17 hσ19 (xk_R hσ16 (xk_arr hf13 hσ15 (xk_R hσ12 (xk_arr hf9 hσ11 (xk_R hσ8 (xk_arr hf5 hσ7 (xk_R hσ4 (xk_arr hf1 hσ3 hk0))))))))))))) (Or.inr ⟨rfl, rfl, rfl⟩) rfl rfl (fun σ28 hσ28 => ?_)
  replace hw := hw σ28 hσ28
  refine x_aload_n dX7_init_60 rfl 0 rfl ?_
  refine x_bipush dX7_init_61 cB_40 ?_
  refine x_fresh (fun hf29 => ?_)
  obtain ⟨hm30, hw⟩ := hw
  refine x_newIN dX7_init_63 wA_int hm30 (by decide) cN_40 (Nat.le_of_ble_eq_true rfl) (fun σ31 hσ31 => ?_)
  replace hw := hw σ31 hσ31
  refine x_putRN (r := (some (xh_n σ28))) (ci := 7) (k := 8) (f := 456) dX7_init_65 wF_X7_32 (Nat.le_of_ble_eq_true rfl) (Nat.le_of_ble_eq_true rfl) (xk_arr hf29 hσ31 (xk_R hσ28 (xk_arr hf25 hσ27 (xk_R hσ24 (xk_arr hf21 hσ23 (xk_R hσ20 (xk_arr hf17 hσ19 (xk_R hσ16 (xk_arr hf13 hσ15 (xk_R hσ12 (xk_arr hf9 hσ11 (xk_R hσ8 (xk_arr hf5 hσ7 (xk_R hσ4 (xk_arr hf1 hσ3 hk0))))))))))))))) (Or.inr ⟨rfl, rfl, rfl⟩) rfl rfl (fun σ32 hσ32 => ?_)
  replace hw := hw σ32 hσ32
  refine x_aload_n dX7_init_68 rfl 0 rfl ?_
  refine x_bipush dX7_init_69 cB_100 ?_
  refine x_fresh (fun hf33 => ?_)
  obtain ⟨hm34, hw⟩ := hw
  refine x_newIN dX7_init_71 wA_int hm34 (by decide) cN_100 (Nat.le_of_ble_eq_true rfl) (fun σ35 hσ35 => ?_)
  replace hw := hw σ35 hσ35
  refine x_putRN (r := (some (xh_n σ32))) (ci := 7) (k := 10) (f := 458) dX7_init_73 wF_X7_35 (Nat.le_of_ble_eq_true rfl) (Nat.le_of_ble_eq_true rfl) (xk_arr hf33 hσ35 (xk_R hσ32 (xk_arr hf29 hσ31 (xk_R hσ28 (xk_arr hf25 hσ27 (xk_R hσ24 (xk_arr hf21 hσ23 (xk_R hσ20 (xk_arr hf17 hσ19 (xk_R hσ16 (xk_arr hf13 hσ15 (xk_R hσ12 (xk_arr hf9 hσ11 (xk_R hσ8 (xk_arr hf5 hσ7 (xk_R hσ4 (xk_arr hf1 hσ3 hk0))))))))))))))))) (Or.inr ⟨rfl, rfl, rfl⟩) rfl rfl (fun σ36 hσ36 => ?_)
  replace hw := hw σ36 hσ36
  refine x_aload_n dX7_init_76 rfl 0 rfl ?_
  refine x_bipush dX7_init_77 cB_100 ?_
  refine x_fresh (fun hf37 => ?_)
  obtain ⟨hm38, hw⟩ := hw
  refine x_newIN dX7_init_79 wA_int hm38 (by decide) cN_100 (Nat.le_of_ble_eq_true rfl) (fun σ39 hσ39 => ?_)
  replace hw := hw σ39 hσ39
  refine x_putRN (r := (some (xh_n σ36))) (ci := 7) (k := 11) (f := 459) dX7_init_81 wF_X7_38 (Nat.le_of_ble_eq_true rfl) (Nat.le_of_ble_eq_true rfl) (xk_arr hf37 hσ39 (xk_R hσ36 (xk_arr hf33 hσ35 (xk_R hσ32 (xk_arr hf29 hσ31 (xk_R hσ28 (xk_arr hf25 hσ27 (xk_R hσ24 (xk_arr hf21 hσ23 (xk_R hσ20 (xk_arr hf17 hσ19 (xk_R hσ16 (xk_arr hf13 hσ15 (xk_R hσ12 (xk_arr hf9 hσ11 (xk_R hσ8 (xk_arr hf5 hσ7 (xk_R hσ4 (xk_arr hf1 hσ3 hk0))))))))))))))))))) (Or.inr ⟨rfl, rfl, rfl⟩) rfl rfl (fun σ40 hσ40 => ?_)
  replace hw := hw σ40 hσ40
  refine x_aload_n dX7_init_84 rfl 0 rfl ?_
  refine x_bipush dX7_init_85 cB_100 ?_
  refine x_fresh (fun hf41 => ?_)
  obtain ⟨hm42, hw⟩ := hw
  refine x_newIN dX7_init_87 wA_int hm42 (by decide) cN_100 (Nat.le_of_ble_eq_true rfl) (fun σ43 hσ43 => ?_)
  replace hw := hw σ43 hσ43
  refine x_putRN (r := (some (xh_n σ40))) (ci := 7) (k := 12) (f := 460) dX7_init_89 wF_X7_41 (Nat.le_of_ble_eq_true rfl) (Nat.le_of_ble_eq_true rfl) (xk_arr hf41 hσ43 (xk_R hσ40 (xk_arr hf37 hσ39 (xk_R hσ36 (xk_arr hf33 hσ35 (xk_R hσ32 (xk_arr hf29 hσ31 (xk_R hσ28 (xk_arr hf25 hσ27 (xk_R hσ24 (xk_arr hf21 hσ23 (xk_R hσ20 (xk_arr hf17 hσ19 (xk_R hσ16 (xk_arr hf13 hσ15 (xk_R hσ12 (xk_arr hf9 hσ11 (xk_R hσ8 (xk_arr hf5 hσ7 (xk_R hσ4 (xk_arr hf1 hσ3 hk0))))))))))))))))))))) (Or.inr ⟨rfl, rfl, rfl⟩) rfl rfl (fun σ44 hσ44 => ?_)
  replace hw := hw σ44 hσ44
  refine x_aload_n dX7_init_92 rfl 0 rfl ?_
  refine x_bipush dX7_init_93 cB_100 ?_
  refine x_fresh (fun hf45 => ?_)
  obtain ⟨hm46, hw⟩ := hw
  refine x_newIN dX7_init_95 wA_int hm46 (by decide) cN_100 (Nat.le_of_ble_eq_true rfl) (fun σ47 hσ47 => ?_)
  replace hw := hw σ47 hσ47
  refine x_putRN (r := (some (xh_n σ44))) (ci := 7) (k := 13) (f := 461) dX7_init_97 wF_X7_44 (Nat.le_of_ble_eq_true rfl) (Nat.le_of_ble_eq_true rfl) (xk_arr hf45 hσ47 (xk_R hσ44 (xk_arr hf41 hσ43 (xk_R hσ40 (xk_arr hf37 hσ39 (xk_R hσ36 (xk_arr hf33 hσ35 (xk_R hσ32 (xk_arr hf29 hσ31 (xk_R hσ28 (xk_arr hf25 hσ27 (xk_R hσ24 (xk_arr hf21 hσ23 (xk_R hσ20 (xk_arr hf17 hσ19 (xk_R hσ16 (xk_arr hf13 hσ15 (xk_R hσ12 (xk_arr hf9 hσ11 (xk_R hσ8 (xk_arr hf5 hσ7 (xk_R hσ4 (xk_arr hf1 hσ3 hk0))))))))))))))))))))))) (Or.inr ⟨rfl, rfl, rfl⟩) rfl rfl (fun σ48 hσ48 => ?_)
  replace hw := hw σ48 hσ48
  refine x_aload_n dX7_init_100 rfl 0 rfl ?_
  refine x_bipush dX7_init_101 cB_100 ?_
  refine x_fresh (fun hf49 => ?_)
  obtain ⟨hm50, hw⟩ := hw
  refine x_newIN dX7_init_103 wA_int hm50 (by decide) cN_100 (Nat.le_of_ble_eq_true rfl) (fun σ51 hσ51 => ?_)
  replace hw := hw σ51 hσ51
  refine x_putRN (r := (some (xh_n σ48))) (ci := 7) (k := 14) (f := 462) dX7_init_105 wF_X7_47 (Nat.le_of_ble_eq_true rfl) (Nat.le_of_ble_eq_true rfl) (xk_arr hf49 hσ51 (xk_R hσ48 (xk_arr hf45 hσ47 (xk_R hσ44 (xk_arr hf41 hσ43 (xk_R hσ40 (xk_arr hf37 hσ39 (xk_R hσ36 (xk_arr hf33 hσ35 (xk_R hσ32 (xk_arr hf29 hσ31 (xk_R hσ28 (xk_arr hf25 hσ27 (xk_R hσ24 (xk_arr hf21 hσ23 (xk_R hσ20 (xk_arr hf17 hσ19 (xk_R hσ16 (xk_arr hf13 hσ15 (xk_R hσ12 (xk_arr hf9 hσ11 (xk_R hσ8 (xk_arr hf5 hσ7 (xk_R hσ4 (xk_arr hf1 hσ3 hk0))))))))))))))))))))))))) (Or.inr ⟨rfl, rfl, rfl⟩) rfl rfl (fun σ52 hσ52 => ?_)
  replace hw := hw σ52 hσ52
  refine x_aload_n dX7_init_108 rfl 0 rfl ?_
  refine x_bipush dX7_init_109 cB_100 ?_
  refine x_fresh (fun hf53 => ?_)
  obtain ⟨hm54, hw⟩ := hw
  refine x_newIN dX7_init_111 wA_int hm54 (by decide) cN_100 (Nat.le_of_ble_eq_true rfl) (fun σ55 hσ55 => ?_)
  replace hw := hw σ55 hσ55
  refine x_putRN (r := (some (xh_n σ52))) (ci := 7) (k := 15) (f := 463) dX7_init_113 wF_X7_50 (Nat.le_of_ble_eq_true rfl) (Nat.le_of_ble_eq_true rfl) (xk_arr hf53 hσ55 (xk_R hσ52 (xk_arr hf49 hσ51 (xk_R hσ48 (xk_arr hf45 hσ47 (xk_R hσ44 (xk_arr hf41 hσ43 (xk_R hσ40 (xk_arr hf37 hσ39 (xk_R hσ36 (xk_arr hf33 hσ35 (xk_R hσ32 (xk_arr hf29 hσ31 (xk_R hσ28 (xk_arr hf25 hσ27 (xk_R hσ24 (xk_arr hf21 hσ23 (xk_R hσ20 (xk_arr hf17 hσ19 (xk_R hσ16 (xk_arr hf13 hσ15 (xk_R hσ12 (xk_arr hf9 hσ11 (xk_R hσ8 (xk_arr hf5 hσ7 (xk_R hσ4 (xk_arr hf1 hσ3 hk0))))))))))))))))))))))))))) (Or.inr ⟨rfl, rfl, rfl⟩) rfl rfl (fun σ56 hσ56 => ?_)
  replace hw := hw σ56 hσ56
  refine x_aload_n dX7_init_116 rfl 0 rfl ?_
  refine x_bipush dX7_init_117 cB_100 ?_
  refine x_fresh (fun hf57 => ?_)
  obtain ⟨hm58, hw⟩ := hw
  refine x_newIN dX7_init_119 wA_int hm58 (by decide) cN_100 (Nat.le_of_ble_eq_true rfl) (fun σ59 hσ59 => ?_)
  replace hw := hw σ59 hσ59
  refine x_putRN (r := (some (xh_n σ56))) (ci := 7) (k := 16) (f := 464) dX7_init_121 wF_X7_53 (Nat.le_of_ble_eq_true rfl) (Nat.le_of_ble_eq_true rfl) (xk_arr hf57 hσ59 (xk_R hσ56 (xk_arr hf53 hσ55 (xk_R hσ52 (xk_arr hf49 hσ51 (xk_R hσ48 (xk_arr hf45 hσ47 (xk_R hσ44 (xk_arr hf41 hσ43 (xk_R hσ40 (xk_arr hf37 hσ39 (xk_R hσ36 (xk_arr hf33 hσ35 (xk_R hσ32 (xk_arr hf29 hσ31 (xk_R hσ28 (xk_arr hf25 hσ27 (xk_R hσ24 (xk_arr hf21 hσ23 (xk_R hσ20 (xk_arr hf17 hσ19 (xk_R hσ16 (xk_arr hf13 hσ15 (xk_R hσ12 (xk_arr hf9 hσ11 (xk_R hσ8 (xk_arr hf5 hσ7 (xk_R hσ4 (xk_arr hf1 hσ3 hk0))))))))))))))))))))))))))))) (Or.inr ⟨rfl, rfl, rfl⟩) rfl rfl (fun σ60 hσ60 => ?_)
  replace hw := hw σ60 hσ60
  refine x_aload_n dX7_init_124 rfl 0 rfl ?_
  refine x_bipush dX7_init_125 cB_100 ?_
  refine x_fresh (fun hf61 => ?_)
  obtain ⟨hm62, hw⟩ := hw
  refine x_newIN dX7_init_127 wA_int hm62 (by decide) cN_100 (Nat.le_of_ble_eq_true rfl) (fun σ63 hσ63 => ?_)
  replace hw := hw σ63 hσ63
  refine x_putRN (r := (some (xh_n σ60))) (ci := 7) (k := 17) (f := 465) dX7_init_129 wF_X7_56 (Nat.le_of_ble_eq_true rfl) (Nat.le_of_ble_eq_true rfl) (xk_arr hf61 hσ63 (xk_R hσ60 (xk_arr hf57 hσ59 (xk_R hσ56 (xk_arr hf53 hσ55 (xk_R hσ52 (xk_arr hf49 hσ51 (xk_R hσ48 (xk_arr hf45 hσ47 (xk_R hσ44 (xk_arr hf41 hσ43 (xk_R hσ40 (xk_arr hf37 hσ39 (xk_R hσ36 (xk_arr hf33 hσ35 (xk_R hσ32 (xk_arr hf29 hσ31 (xk_R hσ28 (xk_arr hf25 hσ27 (xk_R hσ24 (xk_arr hf21 hσ23 (xk_R hσ20 (xk_arr hf17 hσ19 (xk_R hσ16 (xk_arr hf13 hσ15 (xk_R hσ12 (xk_arr hf9 hσ11 (xk_R hσ8 (xk_arr hf5 hσ7 (xk_R hσ4 (xk_arr hf1 hσ3 hk0))))))))))))))))))))))))))))))) (Or.inr ⟨rfl, rfl, rfl⟩) rfl rfl (fun σ64 hσ64 => ?_)
  replace hw := hw σ64 hσ64
  refine x_aload_n dX7_init_132 rfl 0 rfl ?_
  refine x_bipush dX7_init_133 cB_100 ?_
  refine x_fresh (fun hf65 => ?_)
  obtain ⟨hm66, hw⟩ := hw
  refine x_newIN dX7_init_135 wA_int hm66 (by decide) cN_100 (Nat.le_of_ble_eq_true rfl) (fun σ67 hσ67 => ?_)
  replace hw := hw σ67 hσ67
  refine x_putRN (r := (some (xh_n σ64))) (ci := 7) (k := 18) (f := 466) dX7_init_137 wF_X7_59 (Nat.le_of_ble_eq_true rfl) (Nat.le_of_ble_eq_true rfl) (xk_arr hf65 hσ67 (xk_R hσ64 (xk_arr hf61 hσ63 (xk_R hσ60 (xk_arr hf57 hσ59 (xk_R hσ56 (xk_arr hf53 hσ55 (xk_R hσ52 (xk_arr hf49 hσ51 (xk_R hσ48 (xk_arr hf45 hσ47 (xk_R hσ44 (xk_arr hf41 hσ43 (xk_R hσ40 (xk_arr hf37 hσ39 (xk_R hσ36 (xk_arr hf33 hσ35 (xk_R hσ32 (xk_arr hf29 hσ31 (xk_R hσ28 (xk_arr hf25 hσ27 (xk_R hσ24 (xk_arr hf21 hσ23 (xk_R hσ20 (xk_arr hf17 hσ19 (xk_R hσ16 (xk_arr hf13 hσ15 (xk_R hσ12 (xk_arr hf9 hσ11 (xk_R hσ8 (xk_arr hf5 hσ7 (xk_R hσ4 (xk_arr hf1 hσ3 hk0))))))))))))))))))))))))))))))))) (Or.inr ⟨rfl, rfl, rfl⟩) rfl rfl (fun σ68 hσ68 => ?_)
  replace hw := hw σ68 hσ68
  refine x_aload_n dX7_init_140 rfl 0 rfl ?_
  refine x_bipush dX7_init_141 cB_100 ?_
  refine x_fresh (fun hf69 => ?_)
  obtain ⟨hm70, hw⟩ := hw
  refine x_newIN dX7_init_143 wA_int hm70 (by decide) cN_100 (Nat.le_of_ble_eq_true rfl) (fun σ71 hσ71 => ?_)
  replace hw := hw σ71 hσ71
  refine x_putRN (r := (some (xh_n σ68))) (ci := 7) (k := 19) (f := 467) dX7_init_145 wF_X7_62 (Nat.le_of_ble_eq_true rfl) (Nat.le_of_ble_eq_true rfl) (xk_arr hf69 hσ71 (xk_R hσ68 (xk_arr hf65 hσ67 (xk_R hσ64 (xk_arr hf61 hσ63 (xk_R hσ60 (xk_arr hf57 hσ59 (xk_R hσ56 (xk_arr hf53 hσ55 (xk_R hσ52 (xk_arr hf49 hσ51 (xk_R hσ48 (xk_arr hf45 hσ47 (xk_R hσ44 (xk_arr hf41 hσ43 (xk_R hσ40 (xk_arr hf37 hσ39 (xk_R hσ36 (xk_arr hf33 hσ35 (xk_R hσ32 (xk_arr hf29 hσ31 (xk_R hσ28 (xk_arr hf25 hσ27 (xk_R hσ24 (xk_arr hf21 hσ23 (xk_R hσ20 (xk_arr hf17 hσ19 (xk_R hσ16 (xk_arr hf13 hσ15 (xk_R hσ12 (xk_arr hf9 hσ11 (xk_R hσ8 (xk_arr hf5 hσ7 (xk_R hσ4 (xk_arr hf1 hσ3 hk0))))))))))))))))))))))))))))))))))) (Or.inr ⟨rfl, rfl, rfl⟩) rfl rfl (fun σ72 hσ72 => ?_)
  replace hw := hw σ72 hσ72
  refine x_aload_n dX7_init_148 rfl 0 rfl ?_
  refine x_bipush dX7_init_149 cB_100 ?_
  refine x_fresh (fun hf73 => ?_)
  obtain ⟨hm74, hw⟩ := hw
  refine x_newIN dX7_init_151 wA_int hm74 (by decide) cN_100 (Nat.le_of_ble_eq_true rfl) (fun σ75 hσ75 => ?_)
  replace hw := hw σ75 hσ75
  refine x_putRN (r := (some (xh_n σ72))) (ci := 7) (k := 20) (f := 468) dX7_init_153 wF_X7_65 (Nat.le_of_ble_eq_true rfl) (Nat.le_of_ble_eq_true rfl) (xk_arr hf73 hσ75 (xk_R hσ72 (xk_arr hf69 hσ71 (xk_R hσ68 (xk_arr hf65 hσ67 (xk_R hσ64 (xk_arr hf61 hσ63 (xk_R hσ60 (xk_arr hf57 hσ59 (xk_R hσ56 (xk_arr hf53 hσ55 (xk_R hσ52 (xk_arr hf49 hσ51 (xk_R hσ48 (xk_arr hf45 hσ47 (xk_R hσ44 (xk_arr hf41 hσ43 (xk_R hσ40 (xk_arr hf37 hσ39 (xk_R hσ36 (xk_arr hf33 hσ35 (xk_R hσ32 (xk_arr hf29 hσ31 (xk_R hσ28 (xk_arr hf25 hσ27 (xk_R hσ24 (xk_arr hf21 hσ23 (xk_R hσ20 (xk_arr hf17 hσ19 (xk_R hσ16 (xk_arr hf13 hσ15 (xk_R hσ12 (xk_arr hf9 hσ11 (xk_R hσ8 (xk_arr hf5 hσ7 (xk_R hσ4 (xk_arr hf1 hσ3 hk0))))))))))))))))))))))))))))))))))))) (Or.inr ⟨rfl, rfl, rfl⟩) rfl rfl (fun σ76 hσ76 => ?_)
  replace hw := hw σ76 hσ76
  refine x_aload_n dX7_init_156 rfl 0 rfl ?_
  refine x_bipush dX7_init_157 cB_100 ?_
  refine x_fresh (fun hf77 => ?_)
  obtain ⟨hm78, hw⟩ := hw
  refine x_newIN dX7_init_159 wA_int hm78 (by decide) cN_100 (Nat.le_of_ble_eq_true rfl) (fun σ79 hσ79 => ?_)
  replace hw := hw σ79 hσ79
  refine x_putRN (r := (some (xh_n σ76))) (ci := 7) (k := 21) (f := 469) dX7_init_161 wF_X7_68 (Nat.le_of_ble_eq_true rfl) (Nat.le_of_ble_eq_true rfl) (xk_arr hf77 hσ79 (xk_R hσ76 (xk_arr hf73 hσ75 (xk_R hσ72 (xk_arr hf69 hσ71 (xk_R hσ68 (xk_arr hf65 hσ67 (xk_R hσ64 (xk_arr hf61 hσ63 (xk_R hσ60 (xk_arr hf57 hσ59 (xk_R hσ56 (xk_arr hf53 hσ55 (xk_R hσ52 (xk_arr hf49 hσ51 (xk_R hσ48 (xk_arr hf45 hσ47 (xk_R hσ44 (xk_arr hf41 hσ43 (xk_R hσ40 (xk_arr hf37 hσ39 (xk_R hσ36 (xk_arr hf33 hσ35 (xk_R hσ32 (xk_arr hf29 hσ31 (xk_R hσ28 (xk_arr hf25 hσ27 (xk_R hσ24 (xk_arr hf21 hσ23 (xk_R hσ20 (xk_arr hf17 hσ19 (xk_R hσ16 (xk_arr hf13 hσ15 (xk_R hσ12 (xk_arr hf9 hσ11 (xk_R hσ8 (xk_arr hf5 hσ7 (xk_R hσ4 (xk_arr hf1 hσ3 hk0))))))))))))))))))))))))))))))))))))))) (Or.inr ⟨rfl, rfl, rfl⟩) rfl rfl (fun σ80 hσ80 => ?_)
  replace hw := hw σ80 hσ80
  refine x_aload_n dX7_init_164 rfl 0 rfl ?_
  refine x_bipush dX7_init_165 cB_100 ?_
  refine x_fresh (fun hf81 => ?_)
  obtain ⟨hm82, hw⟩ := hw
  refine x_newIN dX7_init_167 wA_int hm82 (by decide) cN_100 (Nat.le_of_ble_eq_true rfl) (fun σ83 hσ83 => ?_)
  replace hw := hw σ83 hσ83
  refine x_putRN (r := (some (xh_n σ80))) (ci := 7) (k := 22) (f := 470) dX7_init_169 wF_X7_71 (Nat.le_of_ble_eq_true rfl) (Nat.le_of_ble_eq_true rfl) (xk_arr hf81 hσ83 (xk_R hσ80 (xk_arr hf77 hσ79 (xk_R hσ76 (xk_arr hf73 hσ75 (xk_R hσ72 (xk_arr hf69 hσ71 (xk_R hσ68 (xk_arr hf65 hσ67 (xk_R hσ64 (xk_arr hf61 hσ63 (xk_R hσ60 (xk_arr hf57 hσ59 (xk_R hσ56 (xk_arr hf53 hσ55 (xk_R hσ52 (xk_arr hf49 hσ51 (xk_R hσ48 (xk_arr hf45 hσ47 (xk_R hσ44 (xk_arr hf41 hσ43 (xk_R hσ40 (xk_arr hf37 hσ39 (xk_R hσ36 (xk_arr hf33 hσ35 (xk_R hσ32 (xk_arr hf29 hσ31 (xk_R hσ28 (xk_arr hf25 hσ27 (xk_R hσ24 (xk_arr hf21 hσ23 (xk_R hσ20 (xk_arr hf17 hσ19 (xk_R hσ16 (xk_arr hf13 hσ15 (xk_R hσ12 (xk_arr hf9 hσ11 (xk_R hσ8 (xk_arr hf5 hσ7 (xk_R hσ4 (xk_arr hf1 hσ3 hk0))))))))))))))))))))))))))))))))))))))))) (Or.inr ⟨rfl, rfl, rfl⟩) rfl rfl (fun σ84 hσ84 => ?_)
  replace hw := hw σ84 hσ84
  refine x_aload_n dX7_init_172 rfl 0 rfl ?_
  refine x_bipush dX7_init_173 cB_100 ?_
  refine x_fresh (fun hf85 => ?_)
  obtain ⟨hm86, hw⟩ := hw
  refine x_newIN dX7_init_175 wA_int hm86 (by decide) cN_100 (Nat.le_of_ble_eq_true rfl) (fun σ87 hσ87 => ?_)
  replace hw := hw σ87 hσ87
  refine x_putRN (r := (some (xh_n σ84))) (ci := 7) (k := 23) (f := 471) dX7_init_177 wF_X7_74 (Nat.le_of_ble_eq_true rfl) (Nat.le_of_ble_eq_true rfl) (xk_arr hf85 hσ87 (xk_R hσ84 (xk_arr hf81 hσ83 (xk_R hσ80 (xk_arr hf77 hσ79 (xk_R hσ76 (xk_arr hf73 hσ75 (xk_R hσ72 (xk_arr hf69 hσ71 (xk_R hσ68 (xk_arr hf65 hσ67 (xk_R hσ64 (xk_arr hf61 hσ63 (xk_R hσ60 (xk_arr hf57 hσ59 (xk_R hσ56 (xk_arr hf53 hσ55 (xk_R hσ52 (xk_arr hf49 hσ51 (xk_R hσ48 (xk_arr hf45 hσ47 (xk_R hσ44 (xk_arr hf41 hσ43 (xk_R hσ40 (xk_arr hf37 hσ39 (xk_R hσ36 (xk_arr hf33 hσ35 (xk_R hσ32 (xk_arr hf29 hσ31 (xk_R hσ28 (xk_arr hf25 hσ27 (xk_R hσ24 (xk_arr hf21 hσ23 (xk_R hσ20 (xk_arr hf17 hσ19 (xk_R hσ16 (xk_arr hf13 hσ15 (xk_R hσ12 (xk_arr hf9 hσ11 (xk_R hσ8 (xk_arr hf5 hσ7 (xk_R hσ4 (xk_arr hf1 hσ3 hk0))))))))))))))))))))))))))))))))))))))))))) (Or.inr ⟨rfl, rfl, rfl⟩) rfl rfl (fun σ88 hσ88 => ?_)
  replace hw := hw σ88 hσ88
  refine x_aload_n dX7_init_180 rfl 0 rfl ?_
  refine x_bipush dX7_init_181 cB_40 ?_
  refine x_fresh (fun hf89 => ?_)
  obtain ⟨hm90, hw⟩ := hw
  refine x_newIN dX7_init_183 wA_int hm90 (by decide) cN_40 (Nat.le_of_ble_eq_true rfl) (fun σ91 hσ91 => ?_)
  replace hw := hw σ91 hσ91
  refine x_putRN (r := (some (xh_n σ88))) (ci := 7) (k := 26) (f := 474) dX7_init_185 wF_X7_77 (Nat.le_of_ble_eq_true rfl) (Nat.le_of_ble_eq_true rfl) (xk_arr hf89 hσ91 (xk_R hσ88 (xk_arr hf85 hσ87 (xk_R hσ84 (xk_arr hf81 hσ83 (xk_R hσ80 (xk_arr hf77 hσ79 (xk_R hσ76 (xk_arr hf73 hσ75 (xk_R hσ72 (xk_arr hf69 hσ71 (xk_R hσ68 (xk_arr hf65 hσ67 (xk_R hσ64 (xk_arr hf61 hσ63 (xk_R hσ60 (xk_arr hf57 hσ59 (xk_R hσ56 (xk_arr hf53 hσ55 (xk_R hσ52 (xk_arr hf49 hσ51 (xk_R hσ48 (xk_arr hf45 hσ47 (xk_R hσ44 (xk_arr hf41 hσ43 (xk_R hσ40 (xk_arr hf37 hσ39 (xk_R hσ36 (xk_arr hf33 hσ35 (xk_R hσ32 (xk_arr hf29 hσ31 (xk_R hσ28 (xk_arr hf25 hσ27 (xk_R hσ24 (xk_arr hf21 hσ23 (xk_R hσ20 (xk_arr hf17 hσ19 (xk_R hσ16 (xk_arr hf13 hσ15 (xk_R hσ12 (xk_arr hf9 hσ11 (xk_R hσ8 (xk_arr hf5 hσ7 (xk_R hσ4 (xk_arr hf1 hσ3 hk0))))))))))))))))))))))))))))))))))))))))))))) (Or.inr ⟨rfl, rfl, rfl⟩) rfl rfl (fun σ92 hσ92 => ?_)
  replace hw := hw σ92 hσ92
  refine x_aload_n dX7_init_188 rfl 0 rfl ?_
  refine x_bipush dX7_init_189 cB_40 ?_
  refine x_fresh (fun hf93 => ?_)
  obtain ⟨hm94, hw⟩ := hw
  refine x_newIN dX7_init_191 wA_int hm94 (by decide) cN_40 (Nat.le_of_ble_eq_true rfl) (fun σ95 hσ95 => ?_)
  replace hw := hw σ95 hσ95
  refine x_putRN (r := (some (xh_n σ92))) (ci := 7) (k := 27) (f := 475) dX7_init_193 wF_X7_80 (Nat.le_of_ble_eq_true rfl) (Nat.le_of_ble_eq_true rfl) (xk_arr hf93 hσ95 (xk_R hσ92 (xk_arr hf89 hσ91 (xk_R hσ88 (xk_arr hf85 hσ87 (xk_R hσ84 (xk_arr hf81 hσ83 (xk_R hσ80 (xk_arr hf77 hσ79 (xk_R hσ76 (xk_arr hf73 hσ75 (xk_R hσ72 (xk_arr hf69 hσ71 (xk_R hσ68 (xk_arr hf65 hσ67 (xk_R hσ64 (xk_arr hf61 hσ63 (xk_R hσ60 (xk_arr hf57 hσ59 (xk_R hσ56 (xk_arr hf53 hσ55 (xk_R hσ52 (xk_arr hf49 hσ51 (xk_R hσ48 (xk_arr hf45 hσ47 (xk_R hσ44 (xk_arr hf41 hσ43 (xk_R hσ40 (xk_arr hf37 hσ39 (xk_R hσ36 (xk_arr hf33 hσ35 (xk_R hσ32 (xk_arr hf29 hσ31 (xk_R hσ28 (xk_arr hf25 hσ27 (xk_R hσ24 (xk_arr hf21 hσ23 (xk_R hσ20 (xk_arr hf17 hσ19 (xk_R hσ16 (xk_arr hf13 hσ15 (xk_R hσ12 (xk_arr hf9 hσ11 (xk_R hσ8 (xk_arr hf5 hσ7 (xk_R hσ4 (xk_arr hf1 hσ3 hk0))))))))))))))))))))))))))))))))))))))))))))))) (Or.inr ⟨rfl, rfl, rfl⟩) rfl rfl (fun σ96 hσ96 => ?_)
  replace hw := hw σ96 hσ96
  refine x_aload_n dX7_init_196 rfl 0 rfl ?_
  refine x_bipush dX7_init_197 cB_40 ?_
  refine x_fresh (fun hf97 => ?_)
  obtain ⟨hm98, hw⟩ := hw
  refine x_newIN dX7_init_199 wA_int hm98 (by decide) cN_40 (Nat.le_of_ble_eq_true rfl) (fun σ99 hσ99 => ?_)
  replace hw := hw σ99 hσ99
  refine x_putRN (r := (some (xh_n σ96))) (ci := 7) (k := 28) (f := 476) dX7_init_201 wF_X7_83 (Nat.le_of_ble_eq_true rfl) (Nat.le_of_ble_eq_true rfl) (xk_arr hf97 hσ99 (xk_R hσ96 (xk_arr hf93 hσ95 (xk_R hσ92 (xk_arr hf89 hσ91 (xk_R hσ88 (xk_arr hf85 hσ87 (xk_R hσ84 (xk_arr hf81 hσ83 (xk_R hσ80 (xk_arr hf77 hσ79 (xk_R hσ76 (xk_arr hf73 hσ75 (xk_R hσ72 (xk_arr hf69 hσ71 (xk_R hσ68 (xk_arr hf65 hσ67 (xk_R hσ64 (xk_arr hf61 hσ63 (xk_R hσ60 (xk_arr hf57 hσ59 (xk_R hσ56 (xk_arr hf53 hσ55 (xk_R hσ52 (xk_arr hf49 hσ51 (xk_R hσ48 (xk_arr hf45 hσ47 (xk_R hσ44 (xk_arr hf41 hσ43 (xk_R hσ40 (xk_arr hf37 hσ39 (xk_R hσ36 (xk_arr hf33 hσ35 (xk_R hσ32 (xk_arr hf29 hσ31 (xk_R hσ28 (xk_arr hf25 hσ27 (xk_R hσ24 (xk_arr hf21 hσ23 (xk_R hσ20 (xk_arr hf17 hσ19 (xk_R hσ16 (xk_arr hf13 hσ15 (xk_R hσ12 (xk_arr hf9 hσ11 (xk_R hσ8 (xk_arr hf5 hσ7 (xk_R hσ4 (xk_arr hf1 hσ3 hk0))))))))))))))))))))))))))))))))))))))))))))))))) (Or.inr ⟨rfl, rfl, rfl⟩) rfl rfl (fun σ100 hσ100 => ?_)
  replace hw := hw σ100 hσ100
  refine x_aload_n dX7_init_204 rfl 0 rfl ?_
  refine x_bipush dX7_init_205 cB_40 ?_
  refine x_fresh (fun hf101 => ?_)
  obtain ⟨hm102, hw⟩ := hw
  refine x_newZN dX7_init_207 wA_boolean hm102 (by decide) cN_40 (Nat.le_of_ble_eq_true rfl) (fun σ103 hσ103 => ?_)
  replace hw := hw σ103 hσ103
  refine x_putRN (r := (some (xh_n σ100))) (ci := 7) (k := 29) (f := 477) dX7_init_209 wF_X7_86 (Nat.le_of_ble_eq_true rfl) (Nat.le_of_ble_eq_true rfl) (xk_arr hf101 hσ103 (xk_R hσ100 (xk_arr hf97 hσ99 (xk_R hσ96 (xk_arr hf93 hσ95 (xk_R hσ92 (xk_arr hf89 hσ91 (xk_R hσ88 (xk_arr hf85 hσ87 (xk_R hσ84 (xk_arr hf81 hσ83 (xk_R hσ80 (xk_arr hf77 hσ79 (xk_R hσ76 (xk_arr hf73 hσ75 (xk_R hσ72 (xk_arr hf69 hσ71 (xk_R hσ68 (xk_arr hf65 hσ67 (xk_R hσ64 (xk_arr hf61 hσ63 (xk_R hσ60 (xk_arr hf57 hσ59 (xk_R hσ56 (xk_arr hf53 hσ55 (xk_R hσ52 (xk_arr hf49 hσ51 (xk_R hσ48 (xk_arr hf45 hσ47 (xk_R hσ44 (xk_arr hf41 hσ43 (xk_R hσ40 (xk_arr hf37 hσ39 (xk_R hσ36 (xk_arr hf33 hσ35 (xk_R hσ32 (xk_arr hf29 hσ31 (xk_R hσ28 (xk_arr hf25 hσ27 (xk_R hσ24 (xk_arr hf21 hσ23 (xk_R hσ20 (xk_arr hf17 hσ19 (xk_R hσ16 (xk_arr hf13 hσ15 (xk_R hσ12 (xk_arr hf9 hσ11 (xk_R hσ8 (xk_arr hf5 hσ7 (xk_R hσ4 (xk_arr hf1 hσ3 hk0))))))))))))))))))))))))))))))))))))))))))))))))))) (Or.inr ⟨rfl, rfl, rfl⟩) rfl rfl (fun σ104 hσ104 => ?_)
  replace hw := hw σ104 hσ104
  refine x_aload_n dX7_init_212 rfl 0 rfl ?_
  refine x_sipush dX7_init_213 cS_400 ?_
  refine x_fresh (fun hf105 => ?_)
  obtain ⟨hm106, hw⟩ := hw
  refine x_newIN dX7_init_216 wA_int hm106 (by decide) cN_400 (Nat.le_of_ble_eq_true rfl) (fun σ107 hσ107 => ?_)
  replace hw := hw σ107 hσ107
  refine x_putRN (r := (some (xh_n σ104))) (ci := 7) (k := 31) (f := 479) dX7_init_218 wF_X7_89 (Nat.le_of_ble_eq_true rfl) (Nat.le_of_ble_eq_true rfl) (xk_arr hf105 hσ107 (xk_R hσ104 (xk_arr hf101 hσ103 (xk_R hσ100 (xk_arr hf97 hσ99 (xk_R hσ96 (xk_arr hf93 hσ95 (xk_R hσ92 (xk_arr hf89 hσ91 (xk_R hσ88 (xk_arr hf85 hσ87 (xk_R hσ84 (xk_arr hf81 hσ83 (xk_R hσ80 (xk_arr hf77 hσ79 (xk_R hσ76 (xk_arr hf73 hσ75 (xk_R hσ72 (xk_arr hf69 hσ71 (xk_R hσ68 (xk_arr hf65 hσ67 (xk_R hσ64 (xk_arr hf61 hσ63 (xk_R hσ60 (xk_arr hf57 hσ59 (xk_R hσ56 (xk_arr hf53 hσ55 (xk_R hσ52 (xk_arr hf49 hσ51 (xk_R hσ48 (xk_arr hf45 hσ47 (xk_R hσ44 (xk_arr hf41 hσ43 (xk_R hσ40 (xk_arr hf37 hσ39 (xk_R hσ36 (xk_arr hf33 hσ35 (xk_R hσ32 (xk_arr hf29 hσ31 (xk_R hσ28 (xk_arr hf25 hσ27 (xk_R hσ24 (xk_arr hf21 hσ23 (xk_R hσ20 (xk_arr hf17 hσ19 (xk_R hσ16 (xk_arr hf13 hσ15 (xk_R hσ12 (xk_arr hf9 hσ11 (xk_R hσ8 (xk_arr hf5 hσ7 (xk_R hσ4 (xk_arr hf1 hσ3 hk0))))))))))))))))))))))))))))))))))))))))))))))))))))) (Or.inr ⟨rfl, rfl, rfl⟩) rfl rfl (fun σ108 hσ108 => ?_)
  replace hw := hw σ108 hσ108
  refine x_aload_n dX7_init_221 rfl 0 rfl ?_
  refine x_sipush dX7_init_222 cS_400 ?_
  refine x_fresh (fun hf109 => ?_)
  obtain ⟨hm110, hw⟩ := hw
  refine x_newIN dX7_init_225 wA_int hm110 (by decide) cN_400 (Nat.le_of_ble_eq_true rfl) (fun σ111 hσ111 => ?_)
  replace hw := hw σ111 hσ111
  refine x_putRN (r := (some (xh_n σ108))) (ci := 7) (k := 32) (f := 480) dX7_init_227 wF_X7_92 (Nat.le_of_ble_eq_true rfl) (Nat.le_of_ble_eq_true rfl) (xk_arr hf109 hσ111 (xk_R hσ108 (xk_arr hf105 hσ107 (xk_R hσ104 (xk_arr hf101 hσ103 (xk_R hσ100 (xk_arr hf97 hσ99 (xk_R hσ96 (xk_arr hf93 hσ95 (xk_R hσ92 (xk_arr hf89 hσ91 (xk_R hσ88 (xk_arr hf85 hσ87 (xk_R hσ84 (xk_arr hf81 hσ83 (xk_R hσ80 (xk_arr hf77 hσ79 (xk_R hσ76 (xk_arr hf73 hσ75 (xk_R hσ72 (xk_arr hf69 hσ71 (xk_R hσ68 (xk_arr hf65 hσ67 (xk_R hσ64 (xk_arr hf61 hσ63 (xk_R hσ60 (xk_arr hf57 hσ59 (xk_R hσ56 (xk_arr hf53 hσ55 (xk_R hσ52 (xk_arr hf49 hσ51 (xk_R hσ48 (xk_arr hf45 hσ47 (xk_R hσ44 (xk_arr hf41 hσ43 (xk_R hσ40 (xk_arr hf37 hσ39 (xk_R hσ36 (xk_arr hf33 hσ35 (xk_R hσ32 (xk_arr hf29 hσ31 (xk_R hσ28 (xk_arr hf25 hσ27 (xk_R hσ24 (xk_arr hf21 hσ23 (xk_R hσ20 (xk_arr hf17 hσ19 (xk_R hσ16 (xk_arr hf13 hσ15 (xk_R hσ12 (xk_arr hf9 hσ11 (xk_R hσ8 (xk_arr hf5 hσ7 (xk_R hσ4 (xk_arr hf1 hσ3 hk0))))))))))))))))))))))))))))))))))))))))))))))))))))))) (Or.inr ⟨rfl, rfl, rfl⟩) rfl rfl (fun σ112 hσ112 => ?_)
  replace hw := hw σ112 hσ112
  refine x_aload_n dX7_init_230 rfl 0 rfl ?_
  refine x_sipush dX7_init_231 cS_400 ?_
  refine x_fresh (fun hf113 => ?_)
  obtain ⟨hm114, hw⟩ := hw
  refine x_newIN dX7_init_234 wA_int hm114 (by decide) cN_400 (Nat.le_of_ble_eq_true rfl) (fun σ115 hσ115 => ?_)
  replace hw := hw σ115 hσ115
  refine x_putRN (r := (some (xh_n σ112))) (ci := 7) (k := 33) (f := 481) dX7_init_236 wF_X7_95 (Nat.le_of_ble_eq_true rfl) (Nat.le_of_ble_eq_true rfl) (xk_arr hf113 hσ115 (xk_R hσ112 (xk_arr hf109 hσ111 (xk_R hσ108 (xk_arr hf105 hσ107 (xk_R hσ104 (xk_arr hf101 hσ103 (xk_R hσ100 (xk_arr hf97 hσ99 (xk_R hσ96 (xk_arr hf93 hσ95 (xk_R hσ92 (xk_arr hf89 hσ91 (xk_R hσ88 (xk_arr hf85 hσ87 (xk_R hσ84 (xk_arr hf81 hσ83 (xk_R hσ80 (xk_arr hf77 hσ79 (xk_R hσ76 (xk_arr hf73 hσ75 (xk_R hσ72 (xk_arr hf69 hσ71 (xk_R hσ68 (xk_arr hf65 hσ67 (xk_R hσ64 (xk_arr hf61 hσ63 (xk_R hσ60 (xk_arr hf57 hσ59 (xk_R hσ56 (xk_arr hf53 hσ55 (xk_R hσ52 (xk_arr hf49 hσ51 (xk_R hσ48 (xk_arr hf45 hσ47 (xk_R hσ44 (xk_arr hf41 hσ43 (xk_R hσ40 (xk_arr hf37 hσ39 (xk_R hσ36 (xk_arr hf33 hσ35 (xk_R hσ32 (xk_arr hf29 hσ31 (xk_R hσ28 (xk_arr hf25 hσ27 (xk_R hσ24 (xk_arr hf21 hσ23 (xk_R hσ20 (xk_arr hf17 hσ19 (xk_R hσ16 (xk_arr hf13 hσ15 (xk_R hσ12 (xk_arr hf9 hσ11 (xk_R hσ8 (xk_arr hf5 hσ7 (xk_R hσ4 (xk_arr hf1 hσ3 hk0))))))))))))))))))))))))))))))))))))))))))))))))))))))))) (Or.inr ⟨rfl, rfl, rfl⟩) rfl rfl (fun σ116 hσ116 => ?_)
  replace hw := hw σ116 hσ116
  refine x_aload_n dX7_init_239 rfl 0 rfl ?_
  refine x_sipush dX7_init_240 cS_400 ?_
  refine x_fresh (fun hf117 => ?_)
  obtain ⟨hm118, hw⟩ := hw
  refine x_newIN dX7_init_243 wA_int hm118 (by decide) cN_400 (Nat.le_of_ble_eq_true rfl) (fun σ119 hσ119 => ?_)
  replace hw := hw σ119 hσ119
  refine x_putRN (r := (some (xh_n σ116))) (ci := 7) (k := 34) (f := 482) dX7_init_245 wF_X7_98 (Nat.le_of_ble_eq_true rfl) (Nat.le_of_ble_eq_true rfl) (xk_arr hf117 hσ119 (xk_R hσ116 (xk_arr hf113 hσ115 (xk_R hσ112 (xk_arr hf109 hσ111 (xk_R hσ108 (xk_arr hf105 hσ107 (xk_R hσ104 (xk_arr hf101 hσ103 (xk_R hσ100 (xk_arr hf97 hσ99 (xk_R hσ96 (xk_arr hf93 hσ95 (xk_R hσ92 (xk_arr hf89 hσ91 (xk_R hσ88 (xk_arr hf85 hσ87 (xk_R hσ84 (xk_arr hf81 hσ83 (xk_R hσ80 (xk_arr hf77 hσ79 (xk_R hσ76 (xk_arr hf73 hσ75 (xk_R hσ72 (xk_arr hf69 hσ71 (xk_R hσ68 (xk_arr hf65 hσ67 (xk_R hσ64 (xk_arr hf61 hσ63 (xk_R hσ60 (xk_arr hf57 hσ59 (xk_R hσ56 (xk_arr hf53 hσ55 (xk_R hσ52 (xk_arr hf49 hσ51 (xk_R hσ48 (xk_arr hf45 hσ47 (xk_R hσ44 (xk_arr hf41 hσ43 (xk_R hσ40 (xk_arr hf37 hσ39 (xk_R hσ36 (xk_arr hf33 hσ35 (xk_R hσ32 (xk_arr hf29 hσ31 (xk_R hσ28 (xk_arr hf25 hσ27 (xk_R hσ24 (xk_arr hf21 hσ23 (xk_R hσ20 (xk_arr hf17 hσ19 (xk_R hσ16 (xk_arr hf13 hσ15 (xk_R hσ12 (xk_arr hf9 hσ11 (xk_R hσ8 (xk_arr hf5 hσ7 (xk_R hσ4 (xk_arr hf1 hσ3 hk0))))))))))))))))))))))))))))))))))))))))))))))))))))))))))) (Or.inr ⟨rfl, rfl, rfl⟩) rfl rfl (fun σ120 hσ120 => ?_)
  replace hw := hw σ120 hσ120
  refine x_aload_n dX7_init_248 rfl 0 rfl ?_
  refine x_sipush dX7_init_249 cS_400 ?_
  refine x_fresh (fun hf121 => ?_)
  obtain ⟨hm122, hw⟩ := hw
  refine x_newIN dX7_init_252 wA_int hm122 (by decide) cN_400 (Nat.le_of_ble_eq_true rfl) (fun σ123 hσ123 => ?_)
  replace hw := hw σ123 hσ123
  refine x_putRN (r := (some (xh_n σ120))) (ci := 7) (k := 35) (f := 483) dX7_init_254 wF_X7_101 (Nat.le_of_ble_eq_true rfl) (Nat.le_of_ble_eq_true rfl) (xk_arr hf121 hσ123 (xk_R hσ120 (xk_arr hf117 hσ119 (xk_R hσ116 (xk_arr hf113 hσ115 (xk_R hσ112 (xk_arr hf109 hσ111 (xk_R hσ108 (xk_arr hf105 hσ107 (xk_R hσ104 (xk_arr hf101 hσ103 (xk_R hσ100 (xk_arr hf97 hσ99 (xk_R hσ96 (xk_arr hf93 hσ95 (xk_R hσ92 (xk_arr hf89 hσ91 (xk_R hσ88 (xk_arr hf85 hσ87 (xk_R hσ84 (xk_arr hf81 hσ83 (xk_R hσ80 (xk_arr hf77 hσ79 (xk_R hσ76 (xk_arr hf73 hσ75 (xk_R hσ72 (xk_arr hf69 hσ71 (xk_R hσ68 (xk_arr hf65 hσ67 (xk_R hσ64 (xk_arr hf61 hσ63 (xk_R hσ60 (xk_arr hf57 hσ59 (xk_R hσ56 (xk_arr hf53 hσ55 (xk_R hσ52 (xk_arr hf49 hσ51 (xk_R hσ48 (xk_arr hf45 hσ47 (xk_R hσ44 (xk_arr hf41 hσ43 (xk_R hσ40 (xk_arr hf37 hσ39 (xk_R hσ36 (xk_arr hf33 hσ35 (xk_R hσ32 (xk_arr hf29 hσ31 (xk_R hσ28 (xk_arr hf25 hσ27 (xk_R hσ24 (xk_arr hf21 hσ23 (xk_R hσ20 (xk_arr hf17 hσ19 (xk_R hσ16 (xk_arr hf13 hσ15 (xk_R hσ12 (xk_arr hf9 hσ11 (xk_R hσ8 (xk_arr hf5 hσ7 (xk_R hσ4 (xk_arr hf1 hσ3 hk0))))))))))))))))))))))))))))))))))))))))))))))))))))))))))))) (Or.inr ⟨rfl, rfl, rfl⟩) rfl rfl (fun σ124 hσ124 => ?_)
  replace hw := hw σ124 hσ124
  refine x_aload_n dX7_init_257 rfl 0 rfl ?_
  refine x_sipush dX7_init_258 cS_400 ?_
  refine x_fresh (fun hf125 => ?_)
  obtain ⟨hm126, hw⟩ := hw
  refine x_newIN dX7_init_261 wA_int hm126 (by decide) cN_400 (Nat.le_of_ble_eq_true rfl) (fun σ127 hσ127 => ?_)
  replace hw := hw σ127 hσ127
  refine x_putRN (r := (some (xh_n σ124))) (ci := 7) (k := 36) (f := 484) dX7_init_263 wF_X7_104 (Nat.le_of_ble_eq_true rfl) (Nat.le_of_ble_eq_true rfl) (xk_arr hf125 hσ127 (xk_R hσ124 (xk_arr hf121 hσ123 (xk_R hσ120 (xk_arr hf117 hσ119 (xk_R hσ116 (xk_arr hf113 hσ115 (xk_R hσ112 (xk_arr hf109 hσ111 (xk_R hσ108 (xk_arr hf105 hσ107 (xk_R hσ104 (xk_arr hf101 hσ103 (xk_R hσ100 (xk_arr hf97 hσ99 (xk_R hσ96 (xk_arr hf93 hσ95 (xk_R hσ92 (xk_arr hf89 hσ91 (xk_R hσ88 (xk_arr hf85 hσ87 (xk_R hσ84 (xk_arr hf81 hσ83 (xk_R hσ80 (xk_arr hf77 hσ79 (xk_R hσ76 (xk_arr hf73 hσ75 (xk_R hσ72 (xk_arr hf69 hσ71 (xk_R hσ68 (xk_arr hf65 hσ67 (xk_R hσ64 (xk_arr hf61 hσ63 (xk_R hσ60 (xk_arr hf57 hσ59 (xk_R hσ56 (xk_arr hf53 hσ55 (xk_R hσ52 (xk_arr hf49 hσ51 (xk_R hσ48 (xk_arr hf45 hσ47 (xk_R hσ44 (xk_arr hf41 hσ43 (xk_R hσ40 (xk_arr hf37 hσ39 (xk_R hσ36 (xk_arr hf33 hσ35 (xk_R hσ32 (xk_arr hf29 hσ31 (xk_R hσ28 (xk_arr hf25 hσ27 (xk_R hσ24 (xk_arr hf21 hσ23 (xk_R hσ20 (xk_arr hf17 hσ19 (xk_R hσ16 (xk_arr hf13 hσ15 (xk_R hσ12 (xk_arr hf9 hσ11 (xk_R hσ8 (xk_arr hf5 hσ7 (xk_R hσ4 (xk_arr hf1 hσ3 hk0))))))))))))))))))))))))))))))))))))))))))))))))))))))))))))))) (Or.inr ⟨rfl, rfl, rfl⟩) rfl rfl (fun σ128 hσ128 => ?_)
  replace hw := hw σ128 hσ128
  refine x_aload_n dX7_init_266 rfl 0 rfl ?_
  refine x_sipush dX7_init_267 cS_400 ?_
  refine x_fresh (fun hf129 => ?_)
  obtain ⟨hm130, hw⟩ := hw
  refine x_newIN dX7_init_270 wA_int hm130 (by decide) cN_400 (Nat.le_of_ble_eq_true rfl) (fun σ131 hσ131 => ?_)
  replace hw := hw σ131 hσ131
  refine x_putRN (r := (some (xh_n σ128))) (ci := 7) (k := 37) (f := 485) dX7_init_272 wF_X7_107 (Nat.le_of_ble_eq_true rfl) (Nat.le_of_ble_eq_true rfl) (xk_arr hf129 hσ131 (xk_R hσ128 (xk_arr hf125 hσ127 (xk_R hσ124 (xk_arr hf121 hσ123 (xk_R hσ120 (xk_arr hf117 hσ119 (xk_R hσ116 (xk_arr hf113 hσ115 (xk_R hσ112 (xk_arr hf109 hσ111 (xk_R hσ108 (xk_arr hf105 hσ107 (xk_R hσ104 (xk_arr hf101 hσ103 (xk_R hσ100 (xk_arr hf97 hσ99 (xk_R hσ96 (xk_arr hf93 hσ95 (xk_R hσ92 (xk_arr hf89 hσ91 (xk_R hσ88 (xk_arr hf85 hσ87 (xk_R hσ84 (xk_arr hf81 hσ83 (xk_R hσ80 (xk_arr hf77 hσ79 (xk_R hσ76 (xk_arr hf73 hσ75 (xk_R hσ72 (xk_arr hf69 hσ71 (xk_R hσ68 (xk_arr hf65 hσ67 (xk_R hσ64 (xk_arr hf61 hσ63 (xk_R hσ60 (xk_arr hf57 hσ59 (xk_R hσ56 (xk_arr hf53 hσ55 (xk_R hσ52 (xk_arr hf49 hσ51 (xk_R hσ48 (xk_arr hf45 hσ47 (xk_R hσ44 (xk_arr hf41 hσ43 (xk_R hσ40 (xk_arr hf37 hσ39 (xk_R hσ36 (xk_arr hf33 hσ35 (xk_R hσ32 (xk_arr hf29 hσ31 (xk_R hσ28 (xk_arr hf25 hσ27 (xk_R hσ24 (xk_arr hf21 hσ23 (xk_R hσ20 (xk_arr hf17 hσ19 (xk_R hσ16 (xk_arr hf13 hσ15 (xk_R hσ12 (xk_arr hf9 hσ11 (xk_R hσ8 (xk_arr hf5 hσ7 (xk_R hσ4 (xk_arr hf1 hσ3 hk0))))))))))))))))))))))))))))))))))))))))))))))))))))))))))))))))) (Or.inr ⟨rfl, rfl, rfl⟩) rfl rfl (fun σ132 hσ132 => ?_)
  replace hw := hw σ132 hσ132
  refine x_aload_n dX7_init_275 rfl 0 rfl ?_
  refine x_sipush dX7_init_276 cS_400 ?_
  refine x_fresh (fun hf133 => ?_)
  obtain ⟨hm134, hw⟩ := hw
  refine x_newIN dX7_init_279 wA_int hm134 (by decide) cN_400 (Nat.le_of_ble_eq_true rfl) (fun σ135 hσ135 => ?_)
  replace hw := hw σ135 hσ135
  refine x_putRN (r := (some (xh_n σ132))) (ci := 7) (k := 38) (f := 486) dX7_init_281 wF_X7_110 (Nat.le_of_ble_eq_true rfl) (Nat.le_of_ble_eq_true rfl) (xk_arr hf133 hσ135 (xk_R hσ132 (xk_arr hf129 hσ131 (xk_R hσ128 (xk_arr hf125 hσ127 (xk_R hσ124 (xk_arr hf121 hσ123 (xk_R hσ120 (xk_arr hf117 hσ119 (xk_R hσ116 (xk_arr hf113 hσ115 (xk_R hσ112 (xk_arr hf109 hσ111 (xk_R hσ108 (xk_arr hf105 hσ107 (xk_R hσ104 (xk_arr hf101 hσ103 (xk_R hσ100 (xk_arr hf97 hσ99 (xk_R hσ96 (xk_arr hf93 hσ95 (xk_R hσ92 (xk_arr hf89 hσ91 (xk_R hσ88 (xk_arr hf85 hσ87 (xk_R hσ84 (xk_arr hf81 hσ83 (xk_R hσ80 (xk_arr hf77 hσ79 (xk_R hσ76 (xk_arr hf73 hσ75 (xk_R hσ72 (xk_arr hf69 hσ71 (xk_R hσ68 (xk_arr hf65 hσ67 (xk_R hσ64 (xk_arr hf61 hσ63 (xk_R hσ60 (xk_arr hf57 hσ59 (xk_R hσ56 (xk_arr hf53 hσ55 (xk_R hσ52 (xk_arr hf49 hσ51 (xk_R hσ48 (xk_arr hf45 hσ47 (xk_R hσ44 (xk_arr hf41 hσ43 (xk_R hσ40 (xk_arr hf37 hσ39 (xk_R hσ36 (xk_arr hf33 hσ35 (xk_R hσ32 (xk_arr hf29 hσ31 (xk_R hσ28 (xk_arr hf25 hσ27 (xk_R hσ24 (xk_arr hf21 hσ23 (xk_R hσ20 (xk_arr hf17 hσ19 (xk_R hσ16 (xk_arr hf13 hσ15 (xk_R hσ12 (xk_arr hf9 hσ11 (xk_R hσ8 (xk_arr hf5 hσ7 (xk_R hσ4 (xk_arr hf1 hσ3 hk0))))))))))))))))))))))))))))))))))))))))))))))))))))))))))))))))))) (Or.inr ⟨rfl, rfl, rfl⟩) rfl rfl (fun σ136 hσ136 => ?_)
  replace hw := hw σ136 hσ136
  refine x_aload_n dX7_init_284 rfl 0 rfl ?_
  refine x_sipush dX7_init_285 cS_400 ?_
  refine x_fresh (fun hf137 => ?_)
  obtain ⟨hm138, hw⟩ := hw
  refine x_newZN dX7_init_288 wA_boolean hm138 (by decide) cN_400 (Nat.le_of_ble_eq_true rfl) (fun σ139 hσ139 => ?_)
  replace hw := hw σ139 hσ139
  refine x_putRN (r := (some (xh_n σ136))) (ci := 7) (k := 39) (f := 487) dX7_init_290 wF_X7_113 (Nat.le_of_ble_eq_true rfl) (Nat.le_of_ble_eq_true rfl) (xk_arr hf137 hσ139 (xk_R hσ136 (xk_arr hf133 hσ135 (xk_R hσ132 (xk_arr hf129 hσ131 (xk_R hσ128 (xk_arr hf125 hσ127 (xk_R hσ124 (xk_arr hf121 hσ123 (xk_R hσ120 (xk_arr hf117 hσ119 (xk_R hσ116 (xk_arr hf113 hσ115 (xk_R hσ112 (xk_arr hf109 hσ111 (xk_R hσ108 (xk_arr hf105 hσ107 (xk_R hσ104 (xk_arr hf101 hσ103 (xk_R hσ100 (xk_arr hf97 hσ99 (xk_R hσ96 (xk_arr hf93 hσ95 (xk_R hσ92 (xk_arr hf89 hσ91 (xk_R hσ88 (xk_arr hf85 hσ87 (xk_R hσ84 (xk_arr hf81 hσ83 (xk_R hσ80 (xk_arr hf77 hσ79 (xk_R hσ76 (xk_arr hf73 hσ75 (xk_R hσ72 (xk_arr hf69 hσ71 (xk_R hσ68 (xk_arr hf65 hσ67 (xk_R hσ64 (xk_arr hf61 hσ63 (xk_R hσ60 (xk_arr hf57 hσ59 (xk_R hσ56 (xk_arr hf53 hσ55 (xk_R hσ52 (xk_arr hf49 hσ51 (xk_R hσ48 (xk_arr hf45 hσ47 (xk_R hσ44 (xk_arr hf41 hσ43 (xk_R hσ40 (xk_arr hf37 hσ39 (xk_R hσ36 (xk_arr hf33 hσ35 (xk_R hσ32 (xk_arr hf29 hσ31 (xk_R hσ28 (xk_arr hf25 hσ27 (xk_R hσ24 (xk_arr hf21 hσ23 (xk_R hσ20 (xk_arr hf17 hσ19 (xk_R hσ16 (xk_arr hf13 hσ15 (xk_R hσ12 (xk_arr hf9 hσ11 (xk_R hσ8 (xk_arr hf5 hσ7 (xk_R hσ4 (xk_arr hf1 hσ3 hk0))))))))))))))))))))))))))))))))))))))))))))))))))))))))))))))))))))) (Or.inr ⟨rfl, rfl, rfl⟩) rfl rfl (fun σ140 hσ140 => ?_)
  replace hw := hw σ140 hσ140
  refine x_aload_n dX7_init_293 rfl 0 rfl ?_
  refine x_bipush dX7_init_294 cB_16 ?_
  refine x_fresh (fun hf141 => ?_)
  obtain ⟨hm142, hw⟩ := hw
  refine x_newZN dX7_init_296 wA_boolean hm142 (by decide) cN_16 (Nat.le_of_ble_eq_true rfl) (fun σ143 hσ143 => ?_)
  replace hw := hw σ143 hσ143
  refine x_putRN (r := (some (xh_n σ140))) (ci := 7) (k := 40) (f := 488) dX7_init_298 wF_X7_116 (Nat.le_of_ble_eq_true rfl) (Nat.le_of_ble_eq_true rfl) (xk_arr hf141 hσ143 (xk_R hσ140 (xk_arr hf137 hσ139 (xk_R hσ136 (xk_arr hf133 hσ135 (xk_R hσ132 (xk_arr hf129 hσ131 (xk_R hσ128 (xk_arr hf125 hσ127 (xk_R hσ124 (xk_arr hf121 hσ123 (xk_R hσ120 (xk_arr hf117 hσ119 (xk_R hσ116 (xk_arr hf113 hσ115 (xk_R hσ112 (xk_arr hf109 hσ111 (xk_R hσ108 (xk_arr hf105 hσ107 (xk_R hσ104 (xk_arr hf101 hσ103 (xk_R hσ100 (xk_arr hf97 hσ99 (xk_R hσ96 (xk_arr hf93 hσ95 (xk_R hσ92 (xk_arr hf89 hσ91 (xk_R hσ88 (xk_arr hf85 hσ87 (xk_R hσ84 (xk_arr hf81 hσ83 (xk_R hσ80 (xk_arr hf77 hσ79 (xk_R hσ76 (xk_arr hf73 hσ75 (xk_R hσ72 (xk_arr hf69 hσ71 (xk_R hσ68 (xk_arr hf65 hσ67 (xk_R hσ64 (xk_arr hf61 hσ63 (xk_R hσ60 (xk_arr hf57 hσ59 (xk_R hσ56 (xk_arr hf53 hσ55 (xk_R hσ52 (xk_arr hf49 hσ51 (xk_R hσ48 (xk_arr hf45 hσ47 (xk_R hσ44 (xk_arr hf41 hσ43 (xk_R hσ40 (xk_arr hf37 hσ39 (xk_R hσ36 (xk_arr hf33 hσ35 (xk_R hσ32 (xk_arr hf29 hσ31 (xk_R hσ28 (xk_arr hf25 hσ27 (xk_R hσ24 (xk_arr hf21 hσ23 (xk_R hσ20 (xk_arr hf17 hσ19 (xk_R hσ16 (xk_arr hf13 hσ15 (xk_R hσ12 (xk_arr hf9 hσ11 (xk_R hσ8 (xk_arr hf5 hσ7 (xk_R hσ4 (xk_arr hf1 hσ3 hk0))))))))))))))))))))))))))))))))))))))))))))))))))))))))))))))))))))))) (Or.inr ⟨rfl, rfl, rfl⟩) rfl rfl (fun σ144 hσ144 => ?_)
  replace hw := hw σ144 hσ144
  refine x_aload_n dX7_init_301 rfl 0 rfl ?_
  refine x_sipush dX7_init_302 cS_400 ?_
  refine x_fresh (fun hf145 => ?_)
  obtain ⟨hm146, hw⟩ := hw
  refine x_newIN dX7_init_305 wA_int hm146 (by decide) cN_400 (Nat.le_of_ble_eq_true rfl) (fun σ147 hσ147 => ?_)
  replace hw := hw σ147 hσ147
  refine x_putRN (r := (some (xh_n σ144))) (ci := 7) (k := 42) (f := 490) dX7_init_307 wF_X7_119 (Nat.le_of_ble_eq_true rfl) (Nat.le_of_ble_eq_true rfl) (xk_arr hf145 hσ147 (xk_R hσ144 (xk_arr hf141 hσ143 (xk_R hσ140 (xk_arr hf137 hσ139 (xk_R hσ136 (xk_arr hf133 hσ135 (xk_R hσ132 (xk_arr hf129 hσ131 (xk_R hσ128 (xk_arr hf125 hσ127 (xk_R hσ124 (xk_arr hf121 hσ123 (xk_R hσ120 (xk_arr hf117 hσ119 (xk_R hσ116 (xk_arr hf113 hσ115 (xk_R hσ112 (xk_arr hf109 hσ111 (xk_R hσ108 (xk_arr hf105 hσ107 (xk_R hσ104 (xk_arr hf101 hσ103 (xk_R hσ100 (xk_arr hf97 hσ99 (xk_R hσ96 (xk_arr hf93 hσ95 (xk_R hσ92 (xk_arr hf89 hσ91 (xk_R hσ88 (xk_arr hf85 hσ87 (xk_R hσ84 (xk_arr hf81 hσ83 (xk_R hσ80 (xk_arr hf77 hσ79 (xk_R hσ76 (xk_arr hf73 hσ75 (xk_R hσ72 (xk_arr hf69 hσ71 (xk_R hσ68 (xk_arr hf65 hσ67 (xk_R hσ64 (xk_arr hf61 hσ63 (xk_R hσ60 (xk_arr hf57 hσ59 (xk_R hσ56 (xk_arr hf53 hσ55 (xk_R hσ52 (xk_arr hf49 hσ51 (xk_R hσ48 (xk_arr hf45 hσ47 (xk_R hσ44 (xk_arr hf41 hσ43 (xk_R hσ40 (xk_arr hf37 hσ39 (xk_R hσ36 (xk_arr hf33 hσ35 (xk_R hσ32 (xk_arr hf29 hσ31 (xk_R hσ28 (xk_arr hf25 hσ27 (xk_R hσ24 (xk_arr hf21 hσ23 (xk_R hσ20 (xk_arr hf17 hσ19 (xk_R hσ16 (xk_arr hf13 hσ15 (xk_R hσ12 (xk_arr hf9 hσ11 (xk_R hσ8 (xk_arr hf5 hσ7 (xk_R hσ4 (xk_arr hf1 hσ3 hk0))))))))))))))))))))))))))))))))))))))))))))))))))))))))))))))))))))))))) (Or.inr ⟨rfl, rfl, rfl⟩) rfl rfl (fun σ148 hσ148 => ?_)
  replace hw := hw σ148 hσ148
  refine x_aload_n dX7_init_310 rfl 0 rfl ?_
  refine x_sipush dX7_init_311 cS_400 ?_
  refine x_fresh (fun hf149 => ?_)
  obtain ⟨hm150, hw⟩ := hw
  refine x_newIN dX7_init_314 wA_int hm150 (by decide) cN_400 (Nat.le_of_ble_eq_true rfl) (fun σ151 hσ151 => ?_)
  replace hw := hw σ151 hσ151
  refine x_putRN (r := (some (xh_n σ148))) (ci := 7) (k := 43) (f := 491) dX7_init_316 wF_X7_122 (Nat.le_of_ble_eq_true rfl) (Nat.le_of_ble_eq_true rfl) (xk_arr hf149 hσ151 (xk_R hσ148 (xk_arr hf145 hσ147 (xk_R hσ144 (xk_arr hf141 hσ143 (xk_R hσ140 (xk_arr hf137 hσ139 (xk_R hσ136 (xk_arr hf133 hσ135 (xk_R hσ132 (xk_arr hf129 hσ131 (xk_R hσ128 (xk_arr hf125 hσ127 (xk_R hσ124 (xk_arr hf121 hσ123 (xk_R hσ120 (xk_arr hf117 hσ119 (xk_R hσ116 (xk_arr hf113 hσ115 (xk_R hσ112 (xk_arr hf109 hσ111 (xk_R hσ108 (xk_arr hf105 hσ107 (xk_R hσ104 (xk_arr hf101 hσ103 (xk_R hσ100 (xk_arr hf97 hσ99 (xk_R hσ96 (xk_arr hf93 hσ95 (xk_R hσ92 (xk_arr hf89 hσ91 (xk_R hσ88 (xk_arr hf85 hσ87 (xk_R hσ84 (xk_arr hf81 hσ83 (xk_R hσ80 (xk_arr hf77 hσ79 (xk_R hσ76 (xk_arr hf73 hσ75 (xk_R hσ72 (xk_arr hf69 hσ71 (xk_R hσ68 (xk_arr hf65 hσ67 (xk_R hσ64 (xk_arr hf61 hσ63 (xk_R hσ60 (xk_arr hf57 hσ59 (xk_R hσ56 (xk_arr hf53 hσ55 (xk_R hσ52 (xk_arr hf49 hσ51 (xk_R hσ48 (xk_arr hf45 hσ47 (xk_R hσ44 (xk_arr hf41 hσ43 (xk_R hσ40 (xk_arr hf37 hσ39 (xk_R hσ36 (xk_arr hf33 hσ35 (xk_R hσ32 (xk_arr hf29 hσ31 (xk_R hσ28 (xk_arr hf25 hσ27 (xk_R hσ24 (xk_arr hf21 hσ23 (xk_R hσ20 (xk_arr hf17 hσ19 (xk_R hσ16 (xk_arr hf13 hσ15 (xk_R hσ12 (xk_arr hf9 hσ11 (xk_R hσ8 (xk_arr hf5 hσ7 (xk_R hσ4 (xk_arr hf1 hσ3 hk0))))))))))))))))))))))))))))))))))))))))))))))))))))))))))))))))))))))))))) (Or.inr ⟨rfl, rfl, rfl⟩) rfl rfl (fun σ152 hσ152 => ?_)
  replace hw := hw σ152 hσ152
  refine x_aload_n dX7_init_319 rfl 0 rfl ?_
  refine x_sipush dX7_init_320 cS_400 ?_
  refine x_fresh (fun hf153 => ?_)
  obtain ⟨hm154, hw⟩ := hw
  refine x_newIN dX7_init_323 wA_int hm154 (by decide) cN_400 (Nat.le_of_ble_eq_true rfl) (fun σ155 hσ155 => ?_)
  replace hw := hw σ155 hσ155
  refine x_putRN (r := (some (xh_n σ152))) (ci := 7) (k := 44) (f := 492) dX7_init_325 wF_X7_125 (Nat.le_of_ble_eq_true rfl) (Nat.le_of_ble_eq_true rfl) (xk_arr hf153 hσ155 (xk_R hσ152 (xk_arr hf149 hσ151 (xk_R hσ148 (xk_arr hf145 hσ147 (xk_R hσ144 (xk_arr hf141 hσ143 (xk_R hσ140 (xk_arr hf137 hσ139 (xk_R hσ136 (xk_arr hf133 hσ135 (xk_R hσ132 (xk_arr hf129 hσ131 (xk_R hσ128 (xk_arr hf125 hσ127 (xk_R hσ124 (xk_arr hf121 hσ123 (xk_R hσ120 (xk_arr hf117 hσ119 (xk_R hσ116 (xk_arr hf113 hσ115 (xk_R hσ112 (xk_arr hf109 hσ111 (xk_R hσ108 (xk_arr hf105 hσ107 (xk_R hσ104 (xk_arr hf101 hσ103 (xk_R hσ100 (xk_arr hf97 hσ99 (xk_R hσ96 (xk_arr hf93 hσ95 (xk_R hσ92 (xk_arr hf89 hσ91 (xk_R hσ88 (xk_arr hf85 hσ87 (xk_R hσ84 (xk_arr hf81 hσ83 (xk_R hσ80 (xk_arr hf77 hσ79 (xk_R hσ76 (xk_arr hf73 hσ75 (xk_R hσ72 (xk_arr hf69 hσ71 (xk_R hσ68 (xk_arr hf65 hσ67 (xk_R hσ64 (xk_arr hf61 hσ63 (xk_R hσ60 (xk_arr hf57 hσ59 (xk_R hσ56 (xk_arr hf53 hσ55 (xk_R hσ52 (xk_arr hf49 hσ51 (xk_R hσ48 (xk_arr hf45 hσ47 (xk_R hσ44 (xk_arr hf41 hσ43 (xk_R hσ40 (xk_arr hf37 hσ39 (xk_R hσ36 (xk_arr hf33 hσ35 (xk_R hσ32 (xk_arr hf29 hσ31 (xk_R hσ28 (xk_arr hf25 hσ27 (xk_R hσ24 (xk_arr hf21 hσ23 (xk_R hσ20 (xk_arr hf17 hσ19 (xk_R hσ16 (xk_arr hf13 hσ15 (xk_R hσ12 (xk_arr hf9 hσ11 (xk_R hσ8 (xk_arr hf5 hσ7 (xk_R hσ4 (xk_arr hf1 hσ3 hk0))))))))))))))))))))))))))))))))))))))))))))))))))))))))))))))))))))))))))))) (Or.inr ⟨rfl, rfl, rfl⟩) rfl rfl (fun σ156 hσ156 => ?_)
  replace hw := hw σ156 hσ156
  refine x_aload_n dX7_init_328 rfl 0 rfl ?_
  refine x_iconst dX7_init_329 cI_0 ?_
  refine x_putIN (ci := 7) (k := 0) (f := 448) dX7_init_330 wF_X7_128 (Nat.le_of_ble_eq_true rfl) (Nat.le_of_ble_eq_true rfl) (xk_R hσ156 (xk_arr hf153 hσ155 (xk_R hσ152 (xk_arr hf149 hσ151 (xk_R hσ148 (xk_arr hf145 hσ147 (xk_R hσ144 (xk_arr hf141 hσ143 (xk_R hσ140 (xk_arr hf137 hσ139 (xk_R hσ136 (xk_arr hf133 hσ135 (xk_R hσ132 (xk_arr hf129 hσ131 (xk_R hσ128 (xk_arr hf125 hσ127 (xk_R hσ124 (xk_arr hf121 hσ123 (xk_R hσ120 (xk_arr hf117 hσ119 (xk_R hσ116 (xk_arr hf113 hσ115 (xk_R hσ112 (xk_arr hf109 hσ111 (xk_R hσ108 (xk_arr hf105 hσ107 (xk_R hσ104 (xk_arr hf101 hσ103 (xk_R hσ100 (xk_arr hf97 hσ99 (xk_R hσ96 (xk_arr hf93 hσ95 (xk_R hσ92 (xk_arr hf89 hσ91 (xk_R hσ88 (xk_arr hf85 hσ87 (xk_R hσ84 (xk_arr hf81 hσ83 (xk_R hσ80 (xk_arr hf77 hσ79 (xk_R hσ76 (xk_arr hf73 hσ75 (xk_R hσ72 (xk_arr hf69 hσ71 (xk_R hσ68 (xk_arr hf65 hσ67 (xk_R hσ64 (xk_arr hf61 hσ63 (xk_R hσ60 (xk_arr hf57 hσ59 (xk_R hσ56 (xk_arr hf53 hσ55 (xk_R hσ52 (xk_arr hf49 hσ51 (xk_R hσ48 (xk_arr hf45 hσ47 (xk_R hσ44 (xk_arr hf41 hσ43 (xk_R hσ40 (xk_arr hf37 hσ39 (xk_R hσ36 (xk_arr hf33 hσ35 (xk_R hσ32 (xk_arr hf29 hσ31 (xk_R hσ28 (xk_arr hf25 hσ27 (xk_R hσ24 (xk_arr hf21 hσ23 (xk_R hσ20 (xk_arr hf17 hσ19 (xk_R hσ16 (xk_arr hf13 hσ15 (xk_R hσ12 (xk_arr hf9 hσ11 (xk_R hσ8 (xk_arr hf5 hσ7 (xk_R hσ4 (xk_arr hf1 hσ3 hk0)))))))))))))))))))))))))))))))))))))))))))))))))))))))))))))))))))))))))))))) (Or.inl rfl) rfl (Or.inl rfl) (fun σ157 hσ157 => ?_)
  replace hw := hw σ157 hσ157
  exact x_vret dX7_init_333 rfl ⟨rfl, hw⟩
-- PromiseWireModel.in(III)Z
def wb_X7_in_15 (Q : Int32 → Prop) (σ : xS) (s0 : Int32) : Prop := (s0 = 0 ∨ s0 = 1) ∧ Q s0
set_option maxRecDepth 100000 in
set_option maxHeartbeats 4000000 in
theorem xb_X7_in_15 {Q : Int32 → Prop} {σ : xS}  {s0 : Int32}  (hw : wb_X7_in_15 Q σ s0) : xX M_X7_in 15 [] [.int s0] σ (xqI (fun r σ2 => σ = σ2 ∧ Q r )) := by
  unfold wb_X7_in_15 at hw
  obtain ⟨hz1, hw⟩ := hw
  exact x_zret dX7_in_15 rfl hz1 ⟨s0, rfl, rfl, hw⟩
def wb_X7_in_14 (Q : Int32 → Prop) (σ : xS) : Prop := wb_X7_in_15 Q σ 0
set_option maxRecDepth 100000 in
set_option maxHeartbeats 4000000 in
theorem xb_X7_in_14 {Q : Int32 → Prop} {σ : xS}   (hw : wb_X7_in_14 Q σ) : xX M_X7_in 14 [] [] σ (xqI (fun r σ2 => σ = σ2 ∧ Q r )) := by
  unfold wb_X7_in_14 at hw
  refine x_iconst dX7_in_14 cI_0 ?_
  exact x_sub [] rfl (xb_X7_in_15 hw)
def wp_X7_in (σ : xS) (l0 : Int32) (l1 : Int32) (l2 : Int32) (Q : Int32 → Prop) : Prop := (l0 < l1 → wb_X7_in_14 Q σ) ∧ (¬ l0 < l1 → (l2 < l0 → wb_X7_in_14 Q σ) ∧ (¬ l2 < l0 → wb_X7_in_15 Q σ 1))
set_option maxRecDepth 100000 in
set_option maxHeartbeats 4000000 in
theorem ct_X7_in {σ : xS}  {l0 : Int32} {l1 : Int32} {l2 : Int32} {Q : Int32 → Prop} (hw : wp_X7_in σ l0 l1 l2 Q) : xCt M_X7_in [.int l0, .int l1, .int l2] σ (xqI (fun r σ2 => σ = σ2 ∧ Q r )) := by
  refine xCt_ofL (lv := [(0, .int l0), (1, .int l1), (2, .int l2)]) pn_X7 (Nat.le_of_ble_eq_true rfl) rfl ?_
  unfold wp_X7_in at hw
  refine x_iload_n dX7_in_0 rfl 0 rfl ?_
  refine x_iload_n dX7_in_1 rfl 1 rfl ?_
  refine x_icmp_lt 14 dX7_in_2 rfl (fun hc2 => ?_) (fun hc2 => ?_)
  · replace hw := hw.1 hc2
    exact x_sub [] rfl (xb_X7_in_14 hw)
  · replace hw := hw.2 hc2
    refine x_iload_n dX7_in_5 rfl 0 rfl ?_
    refine x_iload_n dX7_in_6 rfl 2 rfl ?_
    refine x_icmp_gt 14 dX7_in_7 rfl (fun hc3 => ?_) (fun hc3 => ?_)
    · replace hw := hw.1 hc3
      exact x_sub [] rfl (xb_X7_in_14 hw)
    · replace hw := hw.2 hc3
      refine x_iconst dX7_in_10 cI_1 ?_
      refine x_goto 15 dX7_in_11 rfl ?_
      exact x_sub [] rfl (xb_X7_in_15 hw)
-- PromiseWireModel.isThing(I)Z
def wp_X7_isThing (σ : xS) (a0 : Nat) (l1 : Int32) (Q : Int32 → Prop) : Prop := wp_X7_in σ l1 0 ((xh_I σ 448 a0) - 1) (fun x1 => (x1 = 0 ∨ x1 = 1) ∧ Q x1)
set_option maxRecDepth 100000 in
set_option maxHeartbeats 4000000 in
theorem ct_X7_isThing {σ : xS} {a0 : Nat}  {l1 : Int32} {Q : Int32 → Prop} (hW : xw7 σ a0) (hw : wp_X7_isThing σ a0 l1 Q) : xCt M_X7_isThing [.ref a0, .int l1] σ (xqI (fun r σ2 => σ = σ2 ∧ Q r )) := by
  refine xCt_ofL (lv := [(0, .ref a0), (1, .int l1)]) pn_X7 (Nat.le_of_ble_eq_true rfl) rfl ?_
  unfold wp_X7_isThing at hw
  refine x_iload_n dX7_isThing_0 rfl 1 rfl ?_
  refine x_iconst dX7_isThing_1 cI_0 ?_
  refine x_aload_n dX7_isThing_2 rfl 0 rfl ?_
  refine x_get (ci := 7) (k := 0) (v := .int (xh_I σ 448 a0)) dX7_isThing_3 wF_X7_128 (Nat.le_of_ble_eq_true rfl) (Nat.le_of_ble_eq_true rfl) hW.1 rfl ?_
  refine x_iconst dX7_isThing_6 cI_1 ?_
  refine x_isub dX7_isThing_7 ?_
  refine x_callS (M2 := M_X7_in) (As := [.int l1, .int 0, .int ((xh_I σ 448 a0) - 1)]) (st := []) wM_X7_132 wZ_X7_in dX7_isThing_8 rfl ok_X7_in ⟨(Nat.le_of_ble_eq_true rfl), (Nat.le_of_ble_eq_true rfl)⟩ (Nat.le_of_ble_eq_true rfl) (ct_X7_in hw) (xqI.k (fun x1 τ2 hw2 => ?_))
  obtain ⟨he, hw⟩ := hw2
  subst he
  obtain ⟨hz3, hw⟩ := hw
  exact x_zret dX7_isThing_11 rfl hz3 ⟨x1, rfl, rfl, hw⟩
-- PromiseWireModel.isPromise(I)Z
def wp_X7_isPromise (σ : xS) (a0 : Nat) (l1 : Int32) (Q : Int32 → Prop) : Prop := wp_X7_in σ l1 0 ((xh_I σ 457 a0) - 1) (fun x1 => (x1 = 0 ∨ x1 = 1) ∧ Q x1)
set_option maxRecDepth 100000 in
set_option maxHeartbeats 4000000 in
theorem ct_X7_isPromise {σ : xS} {a0 : Nat}  {l1 : Int32} {Q : Int32 → Prop} (hW : xw7 σ a0) (hw : wp_X7_isPromise σ a0 l1 Q) : xCt M_X7_isPromise [.ref a0, .int l1] σ (xqI (fun r σ2 => σ = σ2 ∧ Q r )) := by
  refine xCt_ofL (lv := [(0, .ref a0), (1, .int l1)]) pn_X7 (Nat.le_of_ble_eq_true rfl) rfl ?_
  unfold wp_X7_isPromise at hw
  refine x_iload_n dX7_isPromise_0 rfl 1 rfl ?_
  refine x_iconst dX7_isPromise_1 cI_0 ?_
  refine x_aload_n dX7_isPromise_2 rfl 0 rfl ?_
  refine x_get (ci := 7) (k := 9) (v := .int (xh_I σ 457 a0)) dX7_isPromise_3 wF_X7_136 (Nat.le_of_ble_eq_true rfl) (Nat.le_of_ble_eq_true rfl) hW.1 rfl ?_
  refine x_iconst dX7_isPromise_6 cI_1 ?_
  refine x_isub dX7_isPromise_7 ?_
  refine x_callS (M2 := M_X7_in) (As := [.int l1, .int 0, .int ((xh_I σ 457 a0) - 1)]) (st := []) wM_X7_132 wZ_X7_in dX7_isPromise_8 rfl ok_X7_in ⟨(Nat.le_of_ble_eq_true rfl), (Nat.le_of_ble_eq_true rfl)⟩ (Nat.le_of_ble_eq_true rfl) (ct_X7_in hw) (xqI.k (fun x1 τ2 hw2 => ?_))
  obtain ⟨he, hw⟩ := hw2
  subst he
  obtain ⟨hz3, hw⟩ := hw
  exact x_zret dX7_isPromise_11 rfl hz3 ⟨x1, rfl, rfl, hw⟩
-- PromiseWireModel.comes(IIIII)I
def wp_X7_comes (σ : xS) (a0 : Nat) (l1 : Int32) (l2 : Int32) (l3 : Int32) (l4 : Int32) (l5 : Int32) (Q : Int32 → xS → Prop) : Prop := vp_in (xh_I σ 448 a0) 40 ∧ ∀ σ2, σ2 = xs_a σ (a0 + 1) (xh_I σ 448 a0).toNatClampNeg l1 → (vp_in (xh_I σ2 448 a0) 40 ∧ ∀ σ4, σ4 = xs_a σ2 (a0 + 2) (xh_I σ2 448 a0).toNatClampNeg l2 → (vp_in (xh_I σ4 448 a0) 40 ∧ ∀ σ6, σ6 = xs_a σ4 (a0 + 3) (xh_I σ4 448 a0).toNatClampNeg l3 → (vp_in (xh_I σ6 448 a0) 40 ∧ ∀ σ8, σ8 = xs_a σ6 (a0 + 4) (xh_I σ6 448 a0).toNatClampNeg l4 → (vp_in (xh_I σ8 448 a0) 40 ∧ ∀ σ10, σ10 = xs_a σ8 (a0 + 5) (xh_I σ8 448 a0).toNatClampNeg l5 → (vp_in (xh_I σ10 448 a0) 40 ∧ ∀ σ12, σ12 = xs_a σ10 (a0 + 6) (xh_I σ10 448 a0).toNatClampNeg 0 → (vp_in (xh_I σ12 448 a0) 40 ∧ ∀ σ14, σ14 = xs_a σ12 (a0 + 7) (xh_I σ12 448 a0).toNatClampNeg 0 → (vp_in (xh_I σ14 448 a0) 40 ∧ ∀ σ16, σ16 = xs_a σ14 (a0 + 8) (xh_I σ14 448 a0).toNatClampNeg 0 → (∀ σ17, σ17 = xs_I σ16 448 a0 ((xh_I σ16 448 a0) + 1) → (Q ((xh_I σ17 448 a0) - 1) σ17)))))))))
set_option maxRecDepth 100000 in
set_option maxHeartbeats 4000000 in
theorem ct_X7_comes {σ : xS} {a0 : Nat}  {l1 : Int32} {l2 : Int32} {l3 : Int32} {l4 : Int32} {l5 : Int32} {Q : Int32 → xS → Prop} (hW : xw7 σ a0) (hw : wp_X7_comes σ a0 l1 l2 l3 l4 l5 Q) : xCt M_X7_comes [.ref a0, .int l1, .int l2, .int l3, .int l4, .int l5] σ (xqI (fun r σ2 => xw7 σ2 a0 ∧ Q r σ2)) := by
  refine xCt_ofL (lv := [(0, .ref a0), (1, .int l1), (2, .int l2), (3, .int l3), (4, .int l4), (5, .int l5)]) pn_X7 (Nat.le_of_ble_eq_true rfl) rfl ?_
  unfold wp_X7_comes at hw
  refine x_aload_n dX7_comes_0 rfl 0 rfl ?_
  refine x_get (ci := 7) (k := 1) (v := .ref (a0 + 1)) dX7_comes_1 wF_X7_7 (Nat.le_of_ble_eq_true rfl) (Nat.le_of_ble_eq_true rfl) hW.1 (congrArg va_rf (w7r_1 hW)) ?_
  refine x_aload_n dX7_comes_4 rfl 0 rfl ?_
  refine x_get (ci := 7) (k := 0) (v := .int (xh_I σ 448 a0)) dX7_comes_5 wF_X7_128 (Nat.le_of_ble_eq_true rfl) (Nat.le_of_ble_eq_true rfl) hW.1 rfl ?_
  refine x_iload_n dX7_comes_8 rfl 1 rfl ?_
  obtain ⟨hv1, hw⟩ := hw
  refine x_iastN dX7_comes_9 (w7k_1 hW) (w7z_1 hW) hv1 (fun σ2 hσ2 => ?_)
  replace hw := hw σ2 hσ2
  refine x_aload_n dX7_comes_10 rfl 0 rfl ?_
  have hW := (xw7_a hσ2 hW)
  refine x_get (ci := 7) (k := 2) (v := .ref (a0 + 2)) dX7_comes_11 wF_X7_13 (Nat.le_of_ble_eq_true rfl) (Nat.le_of_ble_eq_true rfl) hW.1 (congrArg va_rf (w7r_2 hW)) ?_
  refine x_aload_n dX7_comes_14 rfl 0 rfl ?_
  refine x_get (ci := 7) (k := 0) (v := .int (xh_I σ2 448 a0)) dX7_comes_15 wF_X7_128 (Nat.le_of_ble_eq_true rfl) (Nat.le_of_ble_eq_true rfl) hW.1 rfl ?_
  refine x_iload_n dX7_comes_18 rfl 2 rfl ?_
  obtain ⟨hv3, hw⟩ := hw
  refine x_iastN dX7_comes_19 (w7k_2 hW) (w7z_2 hW) hv3 (fun σ4 hσ4 => ?_)
  replace hw := hw σ4 hσ4
  refine x_aload_n dX7_comes_20 rfl 0 rfl ?_
  have hW := (xw7_a hσ4 hW)
  refine x_get (ci := 7) (k := 3) (v := .ref (a0 + 3)) dX7_comes_21 wF_X7_16 (Nat.le_of_ble_eq_true rfl) (Nat.le_of_ble_eq_true rfl) hW.1 (congrArg va_rf (w7r_3 hW)) ?_
  refine x_aload_n dX7_comes_24 rfl 0 rfl ?_
  refine x_get (ci := 7) (k := 0) (v := .int (xh_I σ4 448 a0)) dX7_comes_25 wF_X7_128 (Nat.le_of_ble_eq_true rfl) (Nat.le_of_ble_eq_true rfl) hW.1 rfl ?_
  refine x_iload_n dX7_comes_28 rfl 3 rfl ?_
  obtain ⟨hv5, hw⟩ := hw
  refine x_iastN dX7_comes_29 (w7k_3 hW) (w7z_3 hW) hv5 (fun σ6 hσ6 => ?_)
  replace hw := hw σ6 hσ6
  refine x_aload_n dX7_comes_30 rfl 0 rfl ?_
  have hW := (xw7_a hσ6 hW)
  refine x_get (ci := 7) (k := 4) (v := .ref (a0 + 4)) dX7_comes_31 wF_X7_19 (Nat.le_of_ble_eq_true rfl) (Nat.le_of_ble_eq_true rfl) hW.1 (congrArg va_rf (w7r_4 hW)) ?_
  refine x_aload_n dX7_comes_34 rfl 0 rfl ?_
  refine x_get (ci := 7) (k := 0) (v := .int (xh_I σ6 448 a0)) dX7_comes_35 wF_X7_128 (Nat.le_of_ble_eq_true rfl) (Nat.le_of_ble_eq_true rfl) hW.1 rfl ?_
  refine x_iload dX7_comes_38 4 rfl ?_
  obtain ⟨hv7, hw⟩ := hw
  refine x_iastN dX7_comes_40 (w7k_4 hW) (w7z_4 hW) hv7 (fun σ8 hσ8 => ?_)
  replace hw := hw σ8 hσ8
  refine x_aload_n dX7_comes_41 rfl 0 rfl ?_
  have hW := (xw7_a hσ8 hW)
  refine x_get (ci := 7) (k := 5) (v := .ref (a0 + 5)) dX7_comes_42 wF_X7_22 (Nat.le_of_ble_eq_true rfl) (Nat.le_of_ble_eq_true rfl) hW.1 (congrArg va_rf (w7r_5 hW)) ?_
  refine x_aload_n dX7_comes_45 rfl 0 rfl ?_
  refine x_get (ci := 7) (k := 0) (v := .int (xh_I σ8 448 a0)) dX7_comes_46 wF_X7_128 (Nat.le_of_ble_eq_true rfl) (Nat.le_of_ble_eq_true rfl) hW.1 rfl ?_
  refine x_iload dX7_comes_49 5 rfl ?_
  obtain ⟨hv9, hw⟩ := hw
  refine x_iastN dX7_comes_51 (w7k_5 hW) (w7z_5 hW) hv9 (fun σ10 hσ10 => ?_)
  replace hw := hw σ10 hσ10
  refine x_aload_n dX7_comes_52 rfl 0 rfl ?_
  have hW := (xw7_a hσ10 hW)
  refine x_get (ci := 7) (k := 6) (v := .ref (a0 + 6)) dX7_comes_53 wF_X7_25 (Nat.le_of_ble_eq_true rfl) (Nat.le_of_ble_eq_true rfl) hW.1 (congrArg va_rf (w7r_6 hW)) ?_
  refine x_aload_n dX7_comes_56 rfl 0 rfl ?_
  refine x_get (ci := 7) (k := 0) (v := .int (xh_I σ10 448 a0)) dX7_comes_57 wF_X7_128 (Nat.le_of_ble_eq_true rfl) (Nat.le_of_ble_eq_true rfl) hW.1 rfl ?_
  refine x_iconst dX7_comes_60 cI_0 ?_
  obtain ⟨hv11, hw⟩ := hw
  refine x_zastN dX7_comes_61 (w7k_6 hW) (w7z_6 hW) hv11 (Or.inl rfl) (fun σ12 hσ12 => ?_)
  replace hw := hw σ12 hσ12
  refine x_aload_n dX7_comes_62 rfl 0 rfl ?_
  have hW := (xw7_a hσ12 hW)
  refine x_get (ci := 7) (k := 7) (v := .ref (a0 + 7)) dX7_comes_63 wF_X7_29 (Nat.le_of_ble_eq_true rfl) (Nat.le_of_ble_eq_true rfl) hW.1 (congrArg va_rf (w7r_7 hW)) ?_
  refine x_aload_n dX7_comes_66 rfl 0 rfl ?_
  refine x_get (ci := 7) (k := 0) (v := .int (xh_I σ12 448 a0)) dX7_comes_67 wF_X7_128 (Nat.le_of_ble_eq_true rfl) (Nat.le_of_ble_eq_true rfl) hW.1 rfl ?_
  refine x_iconst dX7_comes_70 cI_0 ?_
  obtain ⟨hv13, hw⟩ := hw
  refine x_zastN dX7_comes_71 (w7k_7 hW) (w7z_7 hW) hv13 (Or.inl rfl) (fun σ14 hσ14 => ?_)
  replace hw := hw σ14 hσ14
  refine x_aload_n dX7_comes_72 rfl 0 rfl ?_
  have hW := (xw7_a hσ14 hW)
  refine x_get (ci := 7) (k := 8) (v := .ref (a0 + 8)) dX7_comes_73 wF_X7_32 (Nat.le_of_ble_eq_true rfl) (Nat.le_of_ble_eq_true rfl) hW.1 (congrArg va_rf (w7r_8 hW)) ?_
  refine x_aload_n dX7_comes_76 rfl 0 rfl ?_
  refine x_get (ci := 7) (k := 0) (v := .int (xh_I σ14 448 a0)) dX7_comes_77 wF_X7_128 (Nat.le_of_ble_eq_true rfl) (Nat.le_of_ble_eq_true rfl) hW.1 rfl ?_
  refine x_iconst dX7_comes_80 cI_0 ?_
  obtain ⟨hv15, hw⟩ := hw
  refine x_iastN dX7_comes_81 (w7k_8 hW) (w7z_8 hW) hv15 (fun σ16 hσ16 => ?_)
  replace hw := hw σ16 hσ16
  refine x_aload_n dX7_comes_82 rfl 0 rfl ?_
  refine x_dup dX7_comes_83 rfl ?_
  have hW := (xw7_a hσ16 hW)
  refine x_get (ci := 7) (k := 0) (v := .int (xh_I σ16 448 a0)) dX7_comes_84 wF_X7_128 (Nat.le_of_ble_eq_true rfl) (Nat.le_of_ble_eq_true rfl) hW.1 rfl ?_
  refine x_iconst dX7_comes_87 cI_1 ?_
  refine x_iadd dX7_comes_88 ?_
  refine x_putIN (ci := 7) (k := 0) (f := 448) dX7_comes_89 wF_X7_128 (Nat.le_of_ble_eq_true rfl) (Nat.le_of_ble_eq_true rfl) hW.1 (Or.inl rfl) rfl (Or.inl rfl) (fun σ17 hσ17 => ?_)
  replace hw := hw σ17 hσ17
  refine x_aload_n dX7_comes_92 rfl 0 rfl ?_
  have hW := (xw7_I hσ17 hW)
  refine x_get (ci := 7) (k := 0) (v := .int (xh_I σ17 448 a0)) dX7_comes_93 wF_X7_128 (Nat.le_of_ble_eq_true rfl) (Nat.le_of_ble_eq_true rfl) hW.1 rfl ?_
  refine x_iconst dX7_comes_96 cI_1 ?_
  refine x_isub dX7_comes_97 ?_
  exact x_iret dX7_comes_98 rfl ⟨((xh_I σ17 448 a0) - 1), rfl, hW, hw⟩
-- PromiseWireModel.thing(III)I
def wb_X7_thing_86 (Q : Int32 → xS → Prop) (σ : xS) (a0 : Nat) (s0 : Int32) : Prop := Q s0 σ
set_option maxRecDepth 100000 in
set_option maxHeartbeats 4000000 in
theorem xb_X7_thing_86 {Q : Int32 → xS → Prop} {σ : xS} {a0 : Nat}  {s0 : Int32} (hW : xw7 σ a0)  (hw : wb_X7_thing_86 Q σ a0 s0) : xX M_X7_thing 86 [(0, .ref a0)] [.int s0] σ (xqI (fun r σ2 => xw7 σ2 a0 ∧ Q r σ2)) := by
  unfold wb_X7_thing_86 at hw
  exact x_iret dX7_thing_86 rfl ⟨s0, rfl, hW, hw⟩
def wb_X7_thing_60 (Q : Int32 → xS → Prop) (σ : xS) (a0 : Nat) : Prop := Q (-1) σ
set_option maxRecDepth 100000 in
set_option maxHeartbeats 4000000 in
theorem xb_X7_thing_60 {Q : Int32 → xS → Prop} {σ : xS} {a0 : Nat}  (hW : xw7 σ a0)  (hw : wb_X7_thing_60 Q σ a0) : xX M_X7_thing 60 [(0, .ref a0)] [] σ (xqI (fun r σ2 => xw7 σ2 a0 ∧ Q r σ2)) := by
  unfold wb_X7_thing_60 at hw
  refine x_iconst dX7_thing_60 cI_m1 ?_
  exact x_iret dX7_thing_61 rfl ⟨(-1), rfl, hW, hw⟩
def wb_X7_thing_44 (Q : Int32 → xS → Prop) (σ : xS) (a0 : Nat) (l1 : Int32) (l2 : Int32) (l3 : Int32) (s0 : Int32) : Prop := wp_X7_in σ l1 0 3 (fun x1 => (x1 = 0 → wb_X7_thing_60 Q σ a0) ∧ (¬ x1 = 0 → (s0 = 0 → wb_X7_thing_60 Q σ a0) ∧ (¬ s0 = 0 → ((xh_I σ 448 a0) = 40 → wb_X7_thing_86 Q σ a0 (-3)) ∧ (¬ (xh_I σ 448 a0) = 40 → wp_X7_comes σ a0 l1 l2 l3 (-9) 0 (fun x6 σ7 => wb_X7_thing_86 Q σ7 a0 x6)))))
set_option maxRecDepth 100000 in
set_option maxHeartbeats 4000000 in
theorem xb_X7_thing_44 {Q : Int32 → xS → Prop} {σ : xS} {a0 : Nat}  {l1 : Int32} {l2 : Int32} {l3 : Int32} {s0 : Int32} (hW : xw7 σ a0)  (hw : wb_X7_thing_44 Q σ a0 l1 l2 l3 s0) : xX M_X7_thing 44 [(0, .ref a0), (1, .int l1), (2, .int l2), (3, .int l3)] [.int s0] σ (xqI (fun r σ2 => xw7 σ2 a0 ∧ Q r σ2)) := by
  unfold wb_X7_thing_44 at hw
  refine x_istore [(4, .int s0), (0, .ref a0), (1, .int l1), (2, .int l2), (3, .int l3)] dX7_thing_44 (Nat.le_of_ble_eq_true rfl) rfl ?_
  refine x_iload_n dX7_thing_46 rfl 2 rfl ?_
  refine x_iconst dX7_thing_47 cI_0 ?_
  refine x_iconst dX7_thing_48 cI_3 ?_
  refine x_callS (M2 := M_X7_in) (As := [.int l1, .int 0, .int 3]) (st := []) wM_X7_132 wZ_X7_in dX7_thing_49 rfl ok_X7_in ⟨(Nat.le_of_ble_eq_true rfl), (Nat.le_of_ble_eq_true rfl)⟩ (Nat.le_of_ble_eq_true rfl) (ct_X7_in hw) (xqI.k (fun x1 τ2 hw2 => ?_))
  obtain ⟨he, hw⟩ := hw2
  subst he
  refine x_if_eq 60 dX7_thing_52 rfl (fun hc3 => ?_) (fun hc3 => ?_)
  · replace hw := hw.1 hc3
    exact x_sub [1] rfl (xb_X7_thing_60 hW hw)
  · replace hw := hw.2 hc3
    refine x_iload dX7_thing_55 0 rfl ?_
    refine x_if_ne 62 dX7_thing_57 rfl (fun hc4 => ?_) (fun hc4 => ?_)
    · replace hw := hw.2 hc4
      refine x_aload_n dX7_thing_62 rfl 1 rfl ?_
      refine x_get (ci := 7) (k := 0) (v := .int (xh_I σ 448 a0)) dX7_thing_63 wF_X7_128 (Nat.le_of_ble_eq_true rfl) (Nat.le_of_ble_eq_true rfl) hW.1 rfl ?_
      refine x_bipush dX7_thing_66 cB_40 ?_
      refine x_icmp_ne 76 dX7_thing_68 rfl (fun hc5 => ?_) (fun hc5 => ?_)
      · replace hw := hw.2 hc5
        refine x_aload_n dX7_thing_76 rfl 1 rfl ?_
        refine x_iload_n dX7_thing_77 rfl 2 rfl ?_
        refine x_iload_n dX7_thing_78 rfl 3 rfl ?_
        refine x_iload_n dX7_thing_79 rfl 4 rfl ?_
        refine x_bipush dX7_thing_80 cB_m9 ?_
        refine x_iconst dX7_thing_82 cI_0 ?_
        refine x_callV (M2 := M_X7_comes) (As := [.int l1, .int l2, .int l3, .int (-9), .int 0]) (st := []) (ci := 7) (Nat.le_of_ble_eq_true rfl) hW.1 rfl wM_X7_139 wI_X7_comes wS_X7_comes dX7_thing_83 rfl ok_X7_comes ⟨(Nat.le_of_ble_eq_true rfl), (Nat.le_of_ble_eq_true rfl)⟩ (Nat.le_of_ble_eq_true rfl) (ct_X7_comes hW hw) (xqI.k (fun x6 σ7 hw2 => ?_))
        obtain ⟨hW, hw⟩ := hw2
        exact x_sub [1] rfl (xb_X7_thing_86 hW hw)
      · replace hw := hw.1 hc5
        refine x_bipush dX7_thing_71 cB_m3 ?_
        refine x_goto 86 dX7_thing_73 rfl ?_
        exact x_sub [1] rfl (xb_X7_thing_86 hW hw)
    · replace hw := hw.1 hc4
      exact x_sub [1] rfl (xb_X7_thing_60 hW hw)
def wb_X7_thing_43 (Q : Int32 → xS → Prop) (σ : xS) (a0 : Nat) (l1 : Int32) (l2 : Int32) (l3 : Int32) : Prop := wb_X7_thing_44 Q σ a0 l1 l2 l3 0
set_option maxRecDepth 100000 in
set_option maxHeartbeats 4000000 in
theorem xb_X7_thing_43 {Q : Int32 → xS → Prop} {σ : xS} {a0 : Nat}  {l1 : Int32} {l2 : Int32} {l3 : Int32} (hW : xw7 σ a0)  (hw : wb_X7_thing_43 Q σ a0 l1 l2 l3) : xX M_X7_thing 43 [(0, .ref a0), (1, .int l1), (2, .int l2), (3, .int l3)] [] σ (xqI (fun r σ2 => xw7 σ2 a0 ∧ Q r σ2)) := by
  unfold wb_X7_thing_43 at hw
  refine x_iconst dX7_thing_43 cI_0 ?_
  exact x_sub [0, 1, 2, 3] rfl (xb_X7_thing_44 hW hw)
def wb_X7_thing_39 (Q : Int32 → xS → Prop) (σ : xS) (a0 : Nat) (l1 : Int32) (l2 : Int32) (l3 : Int32) : Prop := wb_X7_thing_44 Q σ a0 l1 l2 l3 1
set_option maxRecDepth 100000 in
set_option maxHeartbeats 4000000 in
theorem xb_X7_thing_39 {Q : Int32 → xS → Prop} {σ : xS} {a0 : Nat}  {l1 : Int32} {l2 : Int32} {l3 : Int32} (hW : xw7 σ a0)  (hw : wb_X7_thing_39 Q σ a0 l1 l2 l3) : xX M_X7_thing 39 [(0, .ref a0), (1, .int l1), (2, .int l2), (3, .int l3)] [] σ (xqI (fun r σ2 => xw7 σ2 a0 ∧ Q r σ2)) := by
  unfold wb_X7_thing_39 at hw
  refine x_iconst dX7_thing_39 cI_1 ?_
  refine x_goto 44 dX7_thing_40 rfl ?_
  exact x_sub [0, 1, 2, 3] rfl (xb_X7_thing_44 hW hw)
def wb_X7_thing_29 (Q : Int32 → xS → Prop) (σ : xS) (a0 : Nat) (l1 : Int32) (l2 : Int32) (l3 : Int32) : Prop := wp_X7_in σ l3 1 20 (fun x8 => (x8 = 0 → wb_X7_thing_43 Q σ a0 l1 l2 l3) ∧ (¬ x8 = 0 → wb_X7_thing_39 Q σ a0 l1 l2 l3))
set_option maxRecDepth 100000 in
set_option maxHeartbeats 4000000 in
theorem xb_X7_thing_29 {Q : Int32 → xS → Prop} {σ : xS} {a0 : Nat}  {l1 : Int32} {l2 : Int32} {l3 : Int32} (hW : xw7 σ a0)  (hw : wb_X7_thing_29 Q σ a0 l1 l2 l3) : xX M_X7_thing 29 [(0, .ref a0), (1, .int l1), (2, .int l2), (3, .int l3)] [] σ (xqI (fun r σ2 => xw7 σ2 a0 ∧ Q r σ2)) := by
  unfold wb_X7_thing_29 at hw
  refine x_iload_n dX7_thing_29 rfl 3 rfl ?_
  refine x_iconst dX7_thing_30 cI_1 ?_
  refine x_bipush dX7_thing_31 cB_20 ?_
  refine x_callS (M2 := M_X7_in) (As := [.int l3, .int 1, .int 20]) (st := []) wM_X7_132 wZ_X7_in dX7_thing_33 rfl ok_X7_in ⟨(Nat.le_of_ble_eq_true rfl), (Nat.le_of_ble_eq_true rfl)⟩ (Nat.le_of_ble_eq_true rfl) (ct_X7_in hw) (xqI.k (fun x8 τ9 hw2 => ?_))
  obtain ⟨he, hw⟩ := hw2
  subst he
  refine x_if_eq 43 dX7_thing_36 rfl (fun hc10 => ?_) (fun hc10 => ?_)
  · replace hw := hw.1 hc10
    exact x_sub [0, 1, 2, 3] rfl (xb_X7_thing_43 hW hw)
  · replace hw := hw.2 hc10
    exact x_sub [0, 1, 2, 3] rfl (xb_X7_thing_39 hW hw)
def wb_X7_thing_18 (Q : Int32 → xS → Prop) (σ : xS) (a0 : Nat) (l1 : Int32) (l2 : Int32) (l3 : Int32) : Prop := (l2 = 5 → wb_X7_thing_29 Q σ a0 l1 l2 l3) ∧ (¬ l2 = 5 → (l2 = 6 → wb_X7_thing_29 Q σ a0 l1 l2 l3) ∧ (¬ l2 = 6 → wb_X7_thing_43 Q σ a0 l1 l2 l3))
set_option maxRecDepth 100000 in
set_option maxHeartbeats 4000000 in
theorem xb_X7_thing_18 {Q : Int32 → xS → Prop} {σ : xS} {a0 : Nat}  {l1 : Int32} {l2 : Int32} {l3 : Int32} (hW : xw7 σ a0)  (hw : wb_X7_thing_18 Q σ a0 l1 l2 l3) : xX M_X7_thing 18 [(0, .ref a0), (1, .int l1), (2, .int l2), (3, .int l3)] [] σ (xqI (fun r σ2 => xw7 σ2 a0 ∧ Q r σ2)) := by
  unfold wb_X7_thing_18 at hw
  refine x_iload_n dX7_thing_18 rfl 2 rfl ?_
  refine x_iconst dX7_thing_19 cI_5 ?_
  refine x_icmp_eq 29 dX7_thing_20 rfl (fun hc11 => ?_) (fun hc11 => ?_)
  · replace hw := hw.1 hc11
    exact x_sub [0, 1, 2, 3] rfl (xb_X7_thing_29 hW hw)
  · replace hw := hw.2 hc11
    refine x_iload_n dX7_thing_23 rfl 2 rfl ?_
    refine x_bipush dX7_thing_24 cB_6 ?_
    refine x_icmp_ne 43 dX7_thing_26 rfl (fun hc12 => ?_) (fun hc12 => ?_)
    · replace hw := hw.2 hc12
      exact x_sub [0, 1, 2, 3] rfl (xb_X7_thing_43 hW hw)
    · replace hw := hw.1 hc12
      exact x_sub [0, 1, 2, 3] rfl (xb_X7_thing_29 hW hw)
def wp_X7_thing (σ : xS) (a0 : Nat) (l1 : Int32) (l2 : Int32) (l3 : Int32) (Q : Int32 → xS → Prop) : Prop := (l2 = 0 → wb_X7_thing_39 Q σ a0 l1 l2 l3) ∧ (¬ l2 = 0 → (l2 = 2 → wb_X7_thing_39 Q σ a0 l1 l2 l3) ∧ (¬ l2 = 2 → (l2 = 1 → (0 ≤ l3 → wb_X7_thing_39 Q σ a0 l1 l2 l3) ∧ (¬ 0 ≤ l3 → wb_X7_thing_18 Q σ a0 l1 l2 l3)) ∧ (¬ l2 = 1 → wb_X7_thing_18 Q σ a0 l1 l2 l3)))
set_option maxRecDepth 100000 in
set_option maxHeartbeats 4000000 in
theorem ct_X7_thing {σ : xS} {a0 : Nat}  {l1 : Int32} {l2 : Int32} {l3 : Int32} {Q : Int32 → xS → Prop} (hW : xw7 σ a0) (hw : wp_X7_thing σ a0 l1 l2 l3 Q) : xCt M_X7_thing [.ref a0, .int l1, .int l2, .int l3] σ (xqI (fun r σ2 => xw7 σ2 a0 ∧ Q r σ2)) := by
  refine xCt_ofL (lv := [(0, .ref a0), (1, .int l1), (2, .int l2), (3, .int l3)]) pn_X7 (Nat.le_of_ble_eq_true rfl) rfl ?_
  unfold wp_X7_thing at hw
  refine x_iload_n dX7_thing_0 rfl 2 rfl ?_
  refine x_if_eq 39 dX7_thing_1 rfl (fun hc13 => ?_) (fun hc13 => ?_)
  · replace hw := hw.1 hc13
    exact x_sub [0, 1, 2, 3] rfl (xb_X7_thing_39 hW hw)
  · replace hw := hw.2 hc13
    refine x_iload_n dX7_thing_4 rfl 2 rfl ?_
    refine x_iconst dX7_thing_5 cI_2 ?_
    refine x_icmp_eq 39 dX7_thing_6 rfl (fun hc14 => ?_) (fun hc14 => ?_)
    · replace hw := hw.1 hc14
      exact x_sub [0, 1, 2, 3] rfl (xb_X7_thing_39 hW hw)
    · replace hw := hw.2 hc14
      refine x_iload_n dX7_thing_9 rfl 2 rfl ?_
      refine x_iconst dX7_thing_10 cI_1 ?_
      refine x_icmp_ne 18 dX7_thing_11 rfl (fun hc15 => ?_) (fun hc15 => ?_)
      · replace hw := hw.2 hc15
        exact x_sub [0, 1, 2, 3] rfl (xb_X7_thing_18 hW hw)
      · replace hw := hw.1 hc15
        refine x_iload_n dX7_thing_14 rfl 3 rfl ?_
        refine x_if_ge 39 dX7_thing_15 rfl (fun hc16 => ?_) (fun hc16 => ?_)
        · replace hw := hw.1 hc16
          exact x_sub [0, 1, 2, 3] rfl (xb_X7_thing_39 hW hw)
        · replace hw := hw.2 hc16
          exact x_sub [0, 1, 2, 3] rfl (xb_X7_thing_18 hW hw)
-- PromiseWireModel.guard(IIIZ)I
def wb_X7_guard_62 (Q : Int32 → xS → Prop) (σ : xS) (a0 : Nat) (s0 : Int32) : Prop := Q s0 σ
set_option maxRecDepth 100000 in
set_option maxHeartbeats 4000000 in
theorem xb_X7_guard_62 {Q : Int32 → xS → Prop} {σ : xS} {a0 : Nat}  {s0 : Int32} (hW : xw7 σ a0)  (hw : wb_X7_guard_62 Q σ a0 s0) : xX M_X7_guard 62 [(0, .ref a0)] [.int s0] σ (xqI (fun r σ2 => xw7 σ2 a0 ∧ Q r σ2)) := by
  unfold wb_X7_guard_62 at hw
  exact x_iret dX7_guard_62 rfl ⟨s0, rfl, hW, hw⟩
def wb_X7_guard_56 (Q : Int32 → xS → Prop) (σ : xS) (a0 : Nat) (l2 : Int32) (l3 : Int32) (s1 : Int32) (s2 : Int32) : Prop := wp_X7_comes σ a0 s1 s2 0 l2 l3 (fun x1 σ2 => wb_X7_guard_62 Q σ2 a0 x1)
set_option maxRecDepth 100000 in
set_option maxHeartbeats 4000000 in
theorem xb_X7_guard_56 {Q : Int32 → xS → Prop} {σ : xS} {a0 : Nat}  {l2 : Int32} {l3 : Int32} {s1 : Int32} {s2 : Int32} (hW : xw7 σ a0)  (hw : wb_X7_guard_56 Q σ a0 l2 l3 s1 s2) : xX M_X7_guard 56 [(0, .ref a0), (2, .int l2), (3, .int l3)] [.int s2, .int s1, .ref a0] σ (xqI (fun r σ2 => xw7 σ2 a0 ∧ Q r σ2)) := by
  unfold wb_X7_guard_56 at hw
  refine x_iconst dX7_guard_56 cI_0 ?_
  refine x_iload_n dX7_guard_57 rfl 1 rfl ?_
  refine x_iload_n dX7_guard_58 rfl 2 rfl ?_
  refine x_callV (M2 := M_X7_comes) (As := [.int s1, .int s2, .int 0, .int l2, .int l3]) (st := []) (ci := 7) (Nat.le_of_ble_eq_true rfl) hW.1 rfl wM_X7_139 wI_X7_comes wS_X7_comes dX7_guard_59 rfl ok_X7_comes ⟨(Nat.le_of_ble_eq_true rfl), (Nat.le_of_ble_eq_true rfl)⟩ (Nat.le_of_ble_eq_true rfl) (ct_X7_comes hW hw) (xqI.k (fun x1 σ2 hw2 => ?_))
  obtain ⟨hW, hw⟩ := hw2
  exact x_sub [0] rfl (xb_X7_guard_62 hW hw)
def wb_X7_guard_28 (Q : Int32 → xS → Prop) (σ : xS) (a0 : Nat) : Prop := Q (-1) σ
set_option maxRecDepth 100000 in
set_option maxHeartbeats 4000000 in
theorem xb_X7_guard_28 {Q : Int32 → xS → Prop} {σ : xS} {a0 : Nat}  (hW : xw7 σ a0)  (hw : wb_X7_guard_28 Q σ a0) : xX M_X7_guard 28 [(0, .ref a0)] [] σ (xqI (fun r σ2 => xw7 σ2 a0 ∧ Q r σ2)) := by
  unfold wb_X7_guard_28 at hw
  refine x_iconst dX7_guard_28 cI_m1 ?_
  exact x_iret dX7_guard_29 rfl ⟨(-1), rfl, hW, hw⟩
def wp_X7_guard (σ : xS) (a0 : Nat) (l1 : Int32) (l2 : Int32) (l3 : Int32) (l4 : Int32) (Q : Int32 → xS → Prop) : Prop := wp_X7_in σ l1 0 3 (fun x3 => (x3 = 0 → wb_X7_guard_28 Q σ a0) ∧ (¬ x3 = 0 → wp_X7_isThing σ a0 l2 (fun x6 => (x6 = 0 → wb_X7_guard_28 Q σ a0) ∧ (¬ x6 = 0 → wp_X7_in σ l3 0 255 (fun x9 => (x9 = 0 → wb_X7_guard_28 Q σ a0) ∧ (¬ x9 = 0 → ((xh_I σ 448 a0) = 40 → wb_X7_guard_62 Q σ a0 (-3)) ∧ (¬ (xh_I σ 448 a0) = 40 → (l4 = 0 → wb_X7_guard_56 Q σ a0 l2 l3 l1 3) ∧ (¬ l4 = 0 → wb_X7_guard_56 Q σ a0 l2 l3 l1 4))))))))
set_option maxRecDepth 100000 in
set_option maxHeartbeats 4000000 in
theorem ct_X7_guard {σ : xS} {a0 : Nat}  {l1 : Int32} {l2 : Int32} {l3 : Int32} {l4 : Int32} {Q : Int32 → xS → Prop} (hW : xw7 σ a0) (hw : wp_X7_guard σ a0 l1 l2 l3 l4 Q) : xCt M_X7_guard [.ref a0, .int l1, .int l2, .int l3, .int l4] σ (xqI (fun r σ2 => xw7 σ2 a0 ∧ Q r σ2)) := by
  refine xCt_ofL (lv := [(0, .ref a0), (1, .int l1), (2, .int l2), (3, .int l3), (4, .int l4)]) pn_X7 (Nat.le_of_ble_eq_true rfl) rfl ?_
  unfold wp_X7_guard at hw
  refine x_iload_n dX7_guard_0 rfl 1 rfl ?_
  refine x_iconst dX7_guard_1 cI_0 ?_
  refine x_iconst dX7_guard_2 cI_3 ?_
  refine x_callS (M2 := M_X7_in) (As := [.int l1, .int 0, .int 3]) (st := []) wM_X7_132 wZ_X7_in dX7_guard_3 rfl ok_X7_in ⟨(Nat.le_of_ble_eq_true rfl), (Nat.le_of_ble_eq_true rfl)⟩ (Nat.le_of_ble_eq_true rfl) (ct_X7_in hw) (xqI.k (fun x3 τ4 hw2 => ?_))
  obtain ⟨he, hw⟩ := hw2
  subst he
  refine x_if_eq 28 dX7_guard_6 rfl (fun hc5 => ?_) (fun hc5 => ?_)
  · replace hw := hw.1 hc5
    exact x_sub [0] rfl (xb_X7_guard_28 hW hw)
  · replace hw := hw.2 hc5
    refine x_aload_n dX7_guard_9 rfl 0 rfl ?_
    refine x_iload_n dX7_guard_10 rfl 2 rfl ?_
    refine x_callV (M2 := M_X7_isThing) (As := [.int l2]) (st := []) (ci := 7) (Nat.le_of_ble_eq_true rfl) hW.1 rfl wM_X7_143 wI_X7_isThing wS_X7_isThing dX7_guard_11 rfl ok_X7_isThing ⟨(Nat.le_of_ble_eq_true rfl), (Nat.le_of_ble_eq_true rfl)⟩ (Nat.le_of_ble_eq_true rfl) (ct_X7_isThing hW hw) (xqI.k (fun x6 τ7 hw2 => ?_))
    obtain ⟨he, hw⟩ := hw2
    subst he
    refine x_if_eq 28 dX7_guard_14 rfl (fun hc8 => ?_) (fun hc8 => ?_)
    · replace hw := hw.1 hc8
      exact x_sub [0] rfl (xb_X7_guard_28 hW hw)
    · replace hw := hw.2 hc8
      refine x_iload_n dX7_guard_17 rfl 3 rfl ?_
      refine x_iconst dX7_guard_18 cI_0 ?_
      refine x_sipush dX7_guard_19 cS_255 ?_
      refine x_callS (M2 := M_X7_in) (As := [.int l3, .int 0, .int 255]) (st := []) wM_X7_132 wZ_X7_in dX7_guard_22 rfl ok_X7_in ⟨(Nat.le_of_ble_eq_true rfl), (Nat.le_of_ble_eq_true rfl)⟩ (Nat.le_of_ble_eq_true rfl) (ct_X7_in hw) (xqI.k (fun x9 τ10 hw2 => ?_))
      obtain ⟨he, hw⟩ := hw2
      subst he
      refine x_if_ne 30 dX7_guard_25 rfl (fun hc11 => ?_) (fun hc11 => ?_)
      · replace hw := hw.2 hc11
        refine x_aload_n dX7_guard_30 rfl 0 rfl ?_
        refine x_get (ci := 7) (k := 0) (v := .int (xh_I σ 448 a0)) dX7_guard_31 wF_X7_128 (Nat.le_of_ble_eq_true rfl) (Nat.le_of_ble_eq_true rfl) hW.1 rfl ?_
        refine x_bipush dX7_guard_34 cB_40 ?_
        refine x_icmp_ne 44 dX7_guard_36 rfl (fun hc12 => ?_) (fun hc12 => ?_)
        · replace hw := hw.2 hc12
          refine x_aload_n dX7_guard_44 rfl 0 rfl ?_
          refine x_iload_n dX7_guard_45 rfl 1 rfl ?_
          refine x_iload dX7_guard_46 4 rfl ?_
          refine x_if_eq 55 dX7_guard_48 rfl (fun hc13 => ?_) (fun hc13 => ?_)
          · replace hw := hw.1 hc13
            refine x_iconst dX7_guard_55 cI_3 ?_
            exact x_sub [0, 2, 3] rfl (xb_X7_guard_56 hW hw)
          · replace hw := hw.2 hc13
            refine x_iconst dX7_guard_51 cI_4 ?_
            refine x_goto 56 dX7_guard_52 rfl ?_
            exact x_sub [0, 2, 3] rfl (xb_X7_guard_56 hW hw)
        · replace hw := hw.1 hc12
          refine x_bipush dX7_guard_39 cB_m3 ?_
          refine x_goto 62 dX7_guard_41 rfl ?_
          exact x_sub [0] rfl (xb_X7_guard_62 hW hw)
      · replace hw := hw.1 hc11
        exact x_sub [0] rfl (xb_X7_guard_28 hW hw)
-- PromiseWireModel.shut(IZ)I
def wb_X7_shut_44 (Q : Int32 → xS → Prop) (σ : xS) (a0 : Nat) (l1 : Int32) (l2 : Int32) (s0 : Int32) : Prop := vp_in l1 40 ∧ (l2 = 0 ∨ l2 = 1) ∧ ∀ σ3, σ3 = xs_a σ (a0 + 6) l1.toNatClampNeg l2 → (Q s0 σ3)
set_option maxRecDepth 100000 in
set_option maxHeartbeats 4000000 in
theorem xb_X7_shut_44 {Q : Int32 → xS → Prop} {σ : xS} {a0 : Nat}  {l1 : Int32} {l2 : Int32} {s0 : Int32} (hW : xw7 σ a0)  (hw : wb_X7_shut_44 Q σ a0 l1 l2 s0) : xX M_X7_shut 44 [(0, .ref a0), (1, .int l1), (2, .int l2)] [.int s0] σ (xqI (fun r σ2 => xw7 σ2 a0 ∧ Q r σ2)) := by
  unfold wb_X7_shut_44 at hw
  refine x_istore_n [(3, .int s0), (0, .ref a0), (1, .int l1), (2, .int l2)] dX7_shut_44 rfl (Nat.le_of_ble_eq_true rfl) rfl ?_
  refine x_aload_n dX7_shut_45 rfl 1 rfl ?_
  refine x_get (ci := 7) (k := 6) (v := .ref (a0 + 6)) dX7_shut_46 wF_X7_25 (Nat.le_of_ble_eq_true rfl) (Nat.le_of_ble_eq_true rfl) hW.1 (congrArg va_rf (w7r_6 hW)) ?_
  refine x_iload_n dX7_shut_49 rfl 2 rfl ?_
  refine x_iload_n dX7_shut_50 rfl 3 rfl ?_
  obtain ⟨hv1, hw⟩ := hw
  obtain ⟨hz2, hw⟩ := hw
  refine x_zastN dX7_shut_51 (w7k_6 hW) (w7z_6 hW) hv1 hz2 (fun σ3 hσ3 => ?_)
  replace hw := hw σ3 hσ3
  refine x_iload_n dX7_shut_52 rfl 0 rfl ?_
  have hW := (xw7_a hσ3 hW)
  exact x_iret dX7_shut_53 rfl ⟨s0, rfl, hW, hw⟩
def wb_X7_shut_30 (Q : Int32 → xS → Prop) (σ : xS) (a0 : Nat) (l1 : Int32) (l2 : Int32) : Prop := vp_in l1 40 ∧ (((xh_a σ (a0 + 6) l1.toNatClampNeg) = 0 → wb_X7_shut_44 Q σ a0 l1 l2 0) ∧ (¬ (xh_a σ (a0 + 6) l1.toNatClampNeg) = 0 → wb_X7_shut_44 Q σ a0 l1 l2 1))
set_option maxRecDepth 100000 in
set_option maxHeartbeats 4000000 in
theorem xb_X7_shut_30 {Q : Int32 → xS → Prop} {σ : xS} {a0 : Nat}  {l1 : Int32} {l2 : Int32} (hW : xw7 σ a0)  (hw : wb_X7_shut_30 Q σ a0 l1 l2) : xX M_X7_shut 30 [(0, .ref a0), (1, .int l1), (2, .int l2)] [] σ (xqI (fun r σ2 => xw7 σ2 a0 ∧ Q r σ2)) := by
  unfold wb_X7_shut_30 at hw
  refine x_aload_n dX7_shut_30 rfl 0 rfl ?_
  refine x_get (ci := 7) (k := 6) (v := .ref (a0 + 6)) dX7_shut_31 wF_X7_25 (Nat.le_of_ble_eq_true rfl) (Nat.le_of_ble_eq_true rfl) hW.1 (congrArg va_rf (w7r_6 hW)) ?_
  refine x_iload_n dX7_shut_34 rfl 1 rfl ?_
  obtain ⟨hv4, hw⟩ := hw
  refine x_zaldZ dX7_shut_35 (w7k_6 hW) (w7z_6 hW) hv4 ?_
  refine x_if_eq 43 dX7_shut_36 rfl (fun hc5 => ?_) (fun hc5 => ?_)
  · replace hw := hw.1 hc5
    refine x_iconst dX7_shut_43 cI_0 ?_
    exact x_sub [0, 1, 2] rfl (xb_X7_shut_44 hW hw)
  · replace hw := hw.2 hc5
    refine x_iconst dX7_shut_39 cI_1 ?_
    refine x_goto 44 dX7_shut_40 rfl ?_
    exact x_sub [0, 1, 2] rfl (xb_X7_shut_44 hW hw)
def wb_X7_shut_28 (Q : Int32 → xS → Prop) (σ : xS) (a0 : Nat) : Prop := Q (-1) σ
set_option maxRecDepth 100000 in
set_option maxHeartbeats 4000000 in
theorem xb_X7_shut_28 {Q : Int32 → xS → Prop} {σ : xS} {a0 : Nat}  (hW : xw7 σ a0)  (hw : wb_X7_shut_28 Q σ a0) : xX M_X7_shut 28 [(0, .ref a0)] [] σ (xqI (fun r σ2 => xw7 σ2 a0 ∧ Q r σ2)) := by
  unfold wb_X7_shut_28 at hw
  refine x_iconst dX7_shut_28 cI_m1 ?_
  exact x_iret dX7_shut_29 rfl ⟨(-1), rfl, hW, hw⟩
def wp_X7_shut (σ : xS) (a0 : Nat) (l1 : Int32) (l2 : Int32) (Q : Int32 → xS → Prop) : Prop := wp_X7_isThing σ a0 l1 (fun x6 => (x6 = 0 → wb_X7_shut_28 Q σ a0) ∧ (¬ x6 = 0 → vp_in l1 40 ∧ (((xh_a σ (a0 + 2) l1.toNatClampNeg) = 3 → wb_X7_shut_30 Q σ a0 l1 l2) ∧ (¬ (xh_a σ (a0 + 2) l1.toNatClampNeg) = 3 → vp_in l1 40 ∧ (((xh_a σ (a0 + 2) l1.toNatClampNeg) = 4 → wb_X7_shut_30 Q σ a0 l1 l2) ∧ (¬ (xh_a σ (a0 + 2) l1.toNatClampNeg) = 4 → wb_X7_shut_28 Q σ a0))))))
set_option maxRecDepth 100000 in
set_option maxHeartbeats 4000000 in
theorem ct_X7_shut {σ : xS} {a0 : Nat}  {l1 : Int32} {l2 : Int32} {Q : Int32 → xS → Prop} (hW : xw7 σ a0) (hw : wp_X7_shut σ a0 l1 l2 Q) : xCt M_X7_shut [.ref a0, .int l1, .int l2] σ (xqI (fun r σ2 => xw7 σ2 a0 ∧ Q r σ2)) := by
  refine xCt_ofL (lv := [(0, .ref a0), (1, .int l1), (2, .int l2)]) pn_X7 (Nat.le_of_ble_eq_true rfl) rfl ?_
  unfold wp_X7_shut at hw
  refine x_aload_n dX7_shut_0 rfl 0 rfl ?_
  refine x_iload_n dX7_shut_1 rfl 1 rfl ?_
  refine x_callV (M2 := M_X7_isThing) (As := [.int l1]) (st := []) (ci := 7) (Nat.le_of_ble_eq_true rfl) hW.1 rfl wM_X7_143 wI_X7_isThing wS_X7_isThing dX7_shut_2 rfl ok_X7_isThing ⟨(Nat.le_of_ble_eq_true rfl), (Nat.le_of_ble_eq_true rfl)⟩ (Nat.le_of_ble_eq_true rfl) (ct_X7_isThing hW hw) (xqI.k (fun x6 τ7 hw2 => ?_))
  obtain ⟨he, hw⟩ := hw2
  subst he
  refine x_if_eq 28 dX7_shut_5 rfl (fun hc8 => ?_) (fun hc8 => ?_)
  · replace hw := hw.1 hc8
    exact x_sub [0] rfl (xb_X7_shut_28 hW hw)
  · replace hw := hw.2 hc8
    refine x_aload_n dX7_shut_8 rfl 0 rfl ?_
    refine x_get (ci := 7) (k := 2) (v := .ref (a0 + 2)) dX7_shut_9 wF_X7_13 (Nat.le_of_ble_eq_true rfl) (Nat.le_of_ble_eq_true rfl) hW.1 (congrArg va_rf (w7r_2 hW)) ?_
    refine x_iload_n dX7_shut_12 rfl 1 rfl ?_
    obtain ⟨hv9, hw⟩ := hw
    refine x_ialdZ dX7_shut_13 (w7k_2 hW) (w7z_2 hW) hv9 ?_
    refine x_iconst dX7_shut_14 cI_3 ?_
    refine x_icmp_eq 30 dX7_shut_15 rfl (fun hc10 => ?_) (fun hc10 => ?_)
    · replace hw := hw.1 hc10
      exact x_sub [0, 1, 2] rfl (xb_X7_shut_30 hW hw)
    · replace hw := hw.2 hc10
      refine x_aload_n dX7_shut_18 rfl 0 rfl ?_
      refine x_get (ci := 7) (k := 2) (v := .ref (a0 + 2)) dX7_shut_19 wF_X7_13 (Nat.le_of_ble_eq_true rfl) (Nat.le_of_ble_eq_true rfl) hW.1 (congrArg va_rf (w7r_2 hW)) ?_
      refine x_iload_n dX7_shut_22 rfl 1 rfl ?_
      obtain ⟨hv11, hw⟩ := hw
      refine x_ialdZ dX7_shut_23 (w7k_2 hW) (w7z_2 hW) hv11 ?_
      refine x_iconst dX7_shut_24 cI_4 ?_
      refine x_icmp_eq 30 dX7_shut_25 rfl (fun hc12 => ?_) (fun hc12 => ?_)
      · replace hw := hw.1 hc12
        exact x_sub [0, 1, 2] rfl (xb_X7_shut_30 hW hw)
      · replace hw := hw.2 hc12
        exact x_sub [0] rfl (xb_X7_shut_28 hW hw)
-- PromiseWireModel.back(I)I
def wb_X7_back_34 (Q : Int32 → xS → Prop) (σ : xS) (a0 : Nat) (l1 : Int32) (s0 : Int32) : Prop := vp_in l1 40 ∧ ∀ σ2, σ2 = xs_a σ (a0 + 7) l1.toNatClampNeg 1 → (Q s0 σ2)
set_option maxRecDepth 100000 in
set_option maxHeartbeats 4000000 in
theorem xb_X7_back_34 {Q : Int32 → xS → Prop} {σ : xS} {a0 : Nat}  {l1 : Int32} {s0 : Int32} (hW : xw7 σ a0)  (hw : wb_X7_back_34 Q σ a0 l1 s0) : xX M_X7_back 34 [(0, .ref a0), (1, .int l1)] [.int s0] σ (xqI (fun r σ2 => xw7 σ2 a0 ∧ Q r σ2)) := by
  unfold wb_X7_back_34 at hw
  refine x_istore_n [(2, .int s0), (0, .ref a0), (1, .int l1)] dX7_back_34 rfl (Nat.le_of_ble_eq_true rfl) rfl ?_
  refine x_aload_n dX7_back_35 rfl 1 rfl ?_
  refine x_get (ci := 7) (k := 7) (v := .ref (a0 + 7)) dX7_back_36 wF_X7_29 (Nat.le_of_ble_eq_true rfl) (Nat.le_of_ble_eq_true rfl) hW.1 (congrArg va_rf (w7r_7 hW)) ?_
  refine x_iload_n dX7_back_39 rfl 2 rfl ?_
  refine x_iconst dX7_back_40 cI_1 ?_
  obtain ⟨hv1, hw⟩ := hw
  refine x_zastN dX7_back_41 (w7k_7 hW) (w7z_7 hW) hv1 (Or.inr rfl) (fun σ2 hσ2 => ?_)
  replace hw := hw σ2 hσ2
  refine x_iload_n dX7_back_42 rfl 0 rfl ?_
  have hW := (xw7_a hσ2 hW)
  exact x_iret dX7_back_43 rfl ⟨s0, rfl, hW, hw⟩
def wb_X7_back_18 (Q : Int32 → xS → Prop) (σ : xS) (a0 : Nat) : Prop := Q (-1) σ
set_option maxRecDepth 100000 in
set_option maxHeartbeats 4000000 in
theorem xb_X7_back_18 {Q : Int32 → xS → Prop} {σ : xS} {a0 : Nat}  (hW : xw7 σ a0)  (hw : wb_X7_back_18 Q σ a0) : xX M_X7_back 18 [(0, .ref a0)] [] σ (xqI (fun r σ2 => xw7 σ2 a0 ∧ Q r σ2)) := by
  unfold wb_X7_back_18 at hw
  refine x_iconst dX7_back_18 cI_m1 ?_
  exact x_iret dX7_back_19 rfl ⟨(-1), rfl, hW, hw⟩
def wp_X7_back (σ : xS) (a0 : Nat) (l1 : Int32) (Q : Int32 → xS → Prop) : Prop := wp_X7_isThing σ a0 l1 (fun x3 => (x3 = 0 → wb_X7_back_18 Q σ a0) ∧ (¬ x3 = 0 → vp_in l1 40 ∧ (((xh_a σ (a0 + 2) l1.toNatClampNeg) = 4 → vp_in l1 40 ∧ (((xh_a σ (a0 + 7) l1.toNatClampNeg) = 0 → wb_X7_back_34 Q σ a0 l1 1) ∧ (¬ (xh_a σ (a0 + 7) l1.toNatClampNeg) = 0 → wb_X7_back_34 Q σ a0 l1 0))) ∧ (¬ (xh_a σ (a0 + 2) l1.toNatClampNeg) = 4 → wb_X7_back_18 Q σ a0))))
set_option maxRecDepth 100000 in
set_option maxHeartbeats 4000000 in
theorem ct_X7_back {σ : xS} {a0 : Nat}  {l1 : Int32} {Q : Int32 → xS → Prop} (hW : xw7 σ a0) (hw : wp_X7_back σ a0 l1 Q) : xCt M_X7_back [.ref a0, .int l1] σ (xqI (fun r σ2 => xw7 σ2 a0 ∧ Q r σ2)) := by
  refine xCt_ofL (lv := [(0, .ref a0), (1, .int l1)]) pn_X7 (Nat.le_of_ble_eq_true rfl) rfl ?_
  unfold wp_X7_back at hw
  refine x_aload_n dX7_back_0 rfl 0 rfl ?_
  refine x_iload_n dX7_back_1 rfl 1 rfl ?_
  refine x_callV (M2 := M_X7_isThing) (As := [.int l1]) (st := []) (ci := 7) (Nat.le_of_ble_eq_true rfl) hW.1 rfl wM_X7_143 wI_X7_isThing wS_X7_isThing dX7_back_2 rfl ok_X7_isThing ⟨(Nat.le_of_ble_eq_true rfl), (Nat.le_of_ble_eq_true rfl)⟩ (Nat.le_of_ble_eq_true rfl) (ct_X7_isThing hW hw) (xqI.k (fun x3 τ4 hw2 => ?_))
  obtain ⟨he, hw⟩ := hw2
  subst he
  refine x_if_eq 18 dX7_back_5 rfl (fun hc5 => ?_) (fun hc5 => ?_)
  · replace hw := hw.1 hc5
    exact x_sub [0] rfl (xb_X7_back_18 hW hw)
  · replace hw := hw.2 hc5
    refine x_aload_n dX7_back_8 rfl 0 rfl ?_
    refine x_get (ci := 7) (k := 2) (v := .ref (a0 + 2)) dX7_back_9 wF_X7_13 (Nat.le_of_ble_eq_true rfl) (Nat.le_of_ble_eq_true rfl) hW.1 (congrArg va_rf (w7r_2 hW)) ?_
    refine x_iload_n dX7_back_12 rfl 1 rfl ?_
    obtain ⟨hv6, hw⟩ := hw
    refine x_ialdZ dX7_back_13 (w7k_2 hW) (w7z_2 hW) hv6 ?_
    refine x_iconst dX7_back_14 cI_4 ?_
    refine x_icmp_eq 20 dX7_back_15 rfl (fun hc7 => ?_) (fun hc7 => ?_)
    · replace hw := hw.1 hc7
      refine x_aload_n dX7_back_20 rfl 0 rfl ?_
      refine x_get (ci := 7) (k := 7) (v := .ref (a0 + 7)) dX7_back_21 wF_X7_29 (Nat.le_of_ble_eq_true rfl) (Nat.le_of_ble_eq_true rfl) hW.1 (congrArg va_rf (w7r_7 hW)) ?_
      refine x_iload_n dX7_back_24 rfl 1 rfl ?_
      obtain ⟨hv8, hw⟩ := hw
      refine x_zaldZ dX7_back_25 (w7k_7 hW) (w7z_7 hW) hv8 ?_
      refine x_if_eq 33 dX7_back_26 rfl (fun hc9 => ?_) (fun hc9 => ?_)
      · replace hw := hw.1 hc9
        refine x_iconst dX7_back_33 cI_1 ?_
        exact x_sub [0, 1] rfl (xb_X7_back_34 hW hw)
      · replace hw := hw.2 hc9
        refine x_iconst dX7_back_29 cI_0 ?_
        refine x_goto 34 dX7_back_30 rfl ?_
        exact x_sub [0, 1] rfl (xb_X7_back_34 hW hw)
    · replace hw := hw.2 hc7
      exact x_sub [0] rfl (xb_X7_back_18 hW hw)
-- PromiseWireModel.about(II)I
def wb_X7_about_120 (Q : Int32 → Prop) (σ : xS) (a0 : Nat) (s0 : Int32) : Prop := Q s0
set_option maxRecDepth 100000 in
set_option maxHeartbeats 4000000 in
theorem xb_X7_about_120 {Q : Int32 → Prop} {σ : xS} {a0 : Nat}  {s0 : Int32} (hW : xw7 σ a0)  (hw : wb_X7_about_120 Q σ a0 s0) : xX M_X7_about 120 [(0, .ref a0)] [.int s0] σ (xqI (fun r σ2 => σ = σ2 ∧ Q r )) := by
  unfold wb_X7_about_120 at hw
  exact x_iret dX7_about_120 rfl ⟨s0, rfl, rfl, hw⟩
def wb_X7_about_105 (Q : Int32 → Prop) (σ : xS) (a0 : Nat) (s0 : Int32) : Prop := Q s0
set_option maxRecDepth 100000 in
set_option maxHeartbeats 4000000 in
theorem xb_X7_about_105 {Q : Int32 → Prop} {σ : xS} {a0 : Nat}  {s0 : Int32} (hW : xw7 σ a0)  (hw : wb_X7_about_105 Q σ a0 s0) : xX M_X7_about 105 [(0, .ref a0)] [.int s0] σ (xqI (fun r σ2 => σ = σ2 ∧ Q r )) := by
  unfold wb_X7_about_105 at hw
  exact x_iret dX7_about_105 rfl ⟨s0, rfl, rfl, hw⟩
def wp_X7_about (σ : xS) (a0 : Nat) (l1 : Int32) (l2 : Int32) (Q : Int32 → Prop) : Prop := wp_X7_isThing σ a0 l1 (fun x1 => (x1 = 0 → Q (-1)) ∧ (¬ x1 = 0 → (l2 = 0 → vp_in l1 40 ∧ (Q (xh_a σ (a0 + 1) l1.toNatClampNeg))) ∧ (¬ l2 = 0 → (l2 = 1 → vp_in l1 40 ∧ (Q (xh_a σ (a0 + 2) l1.toNatClampNeg))) ∧ (¬ l2 = 1 → (l2 = 2 → vp_in l1 40 ∧ (Q (xh_a σ (a0 + 3) l1.toNatClampNeg))) ∧ (¬ l2 = 2 → (l2 = 3 → vp_in l1 40 ∧ (Q (xh_a σ (a0 + 4) l1.toNatClampNeg))) ∧ (¬ l2 = 3 → (l2 = 4 → vp_in l1 40 ∧ (Q (xh_a σ (a0 + 5) l1.toNatClampNeg))) ∧ (¬ l2 = 4 → (l2 = 5 → vp_in l1 40 ∧ (((xh_a σ (a0 + 6) l1.toNatClampNeg) = 0 → wb_X7_about_105 Q σ a0 0) ∧ (¬ (xh_a σ (a0 + 6) l1.toNatClampNeg) = 0 → wb_X7_about_105 Q σ a0 1))) ∧ (¬ l2 = 5 → (l2 = 6 → vp_in l1 40 ∧ (((xh_a σ (a0 + 7) l1.toNatClampNeg) = 0 → wb_X7_about_120 Q σ a0 0) ∧ (¬ (xh_a σ (a0 + 7) l1.toNatClampNeg) = 0 → wb_X7_about_120 Q σ a0 1))) ∧ (¬ l2 = 6 → (l2 = 7 → vp_in l1 40 ∧ (Q (xh_a σ (a0 + 8) l1.toNatClampNeg))) ∧ (¬ l2 = 7 → Q (-1)))))))))))
set_option maxRecDepth 100000 in
set_option maxHeartbeats 4000000 in
theorem ct_X7_about {σ : xS} {a0 : Nat}  {l1 : Int32} {l2 : Int32} {Q : Int32 → Prop} (hW : xw7 σ a0) (hw : wp_X7_about σ a0 l1 l2 Q) : xCt M_X7_about [.ref a0, .int l1, .int l2] σ (xqI (fun r σ2 => σ = σ2 ∧ Q r )) := by
  refine xCt_ofL (lv := [(0, .ref a0), (1, .int l1), (2, .int l2)]) pn_X7 (Nat.le_of_ble_eq_true rfl) rfl ?_
  unfold wp_X7_about at hw
  refine x_aload_n dX7_about_0 rfl 0 rfl ?_
  refine x_iload_n dX7_about_1 rfl 1 rfl ?_
  refine x_callV (M2 := M_X7_isThing) (As := [.int l1]) (st := []) (ci := 7) (Nat.le_of_ble_eq_true rfl) hW.1 rfl wM_X7_143 wI_X7_isThing wS_X7_isThing dX7_about_2 rfl ok_X7_isThing ⟨(Nat.le_of_ble_eq_true rfl), (Nat.le_of_ble_eq_true rfl)⟩ (Nat.le_of_ble_eq_true rfl) (ct_X7_isThing hW hw) (xqI.k (fun x1 τ2 hw2 => ?_))
  obtain ⟨he, hw⟩ := hw2
  subst he
  refine x_if_ne 10 dX7_about_5 rfl (fun hc3 => ?_) (fun hc3 => ?_)
  · replace hw := hw.2 hc3
    refine x_iload_n dX7_about_10 rfl 2 rfl ?_
    by_cases hc4 : l2 = 0
    · replace hw := hw.1 hc4
      refine x_tableIn (off := 45) 56 dX7_about_11 (by rw [hc4]; decide) (by rw [hc4]; decide) (by rw [hc4]; rfl) rfl ?_
      refine x_aload_n dX7_about_56 rfl 0 rfl ?_
      refine x_get (ci := 7) (k := 1) (v := .ref (a0 + 1)) dX7_about_57 wF_X7_7 (Nat.le_of_ble_eq_true rfl) (Nat.le_of_ble_eq_true rfl) hW.1 (congrArg va_rf (w7r_1 hW)) ?_
      refine x_iload_n dX7_about_60 rfl 1 rfl ?_
      obtain ⟨hv5, hw⟩ := hw
      refine x_ialdZ dX7_about_61 (w7k_1 hW) (w7z_1 hW) hv5 ?_
      exact x_iret dX7_about_62 rfl ⟨(xh_a σ (a0 + 1) l1.toNatClampNeg), rfl, rfl, hw⟩
    · replace hw := hw.2 hc4
      by_cases hc6 : l2 = 1
      · replace hw := hw.1 hc6
        refine x_tableIn (off := 52) 63 dX7_about_11 (by rw [hc6]; decide) (by rw [hc6]; decide) (by rw [hc6]; rfl) rfl ?_
        refine x_aload_n dX7_about_63 rfl 0 rfl ?_
        refine x_get (ci := 7) (k := 2) (v := .ref (a0 + 2)) dX7_about_64 wF_X7_13 (Nat.le_of_ble_eq_true rfl) (Nat.le_of_ble_eq_true rfl) hW.1 (congrArg va_rf (w7r_2 hW)) ?_
        refine x_iload_n dX7_about_67 rfl 1 rfl ?_
        obtain ⟨hv7, hw⟩ := hw
        refine x_ialdZ dX7_about_68 (w7k_2 hW) (w7z_2 hW) hv7 ?_
        exact x_iret dX7_about_69 rfl ⟨(xh_a σ (a0 + 2) l1.toNatClampNeg), rfl, rfl, hw⟩
      · replace hw := hw.2 hc6
        by_cases hc8 : l2 = 2
        · replace hw := hw.1 hc8
          refine x_tableIn (off := 59) 70 dX7_about_11 (by rw [hc8]; decide) (by rw [hc8]; decide) (by rw [hc8]; rfl) rfl ?_
          refine x_aload_n dX7_about_70 rfl 0 rfl ?_
          refine x_get (ci := 7) (k := 3) (v := .ref (a0 + 3)) dX7_about_71 wF_X7_16 (Nat.le_of_ble_eq_true rfl) (Nat.le_of_ble_eq_true rfl) hW.1 (congrArg va_rf (w7r_3 hW)) ?_
          refine x_iload_n dX7_about_74 rfl 1 rfl ?_
          obtain ⟨hv9, hw⟩ := hw
          refine x_ialdZ dX7_about_75 (w7k_3 hW) (w7z_3 hW) hv9 ?_
          exact x_iret dX7_about_76 rfl ⟨(xh_a σ (a0 + 3) l1.toNatClampNeg), rfl, rfl, hw⟩
        · replace hw := hw.2 hc8
          by_cases hc10 : l2 = 3
          · replace hw := hw.1 hc10
            refine x_tableIn (off := 66) 77 dX7_about_11 (by rw [hc10]; decide) (by rw [hc10]; decide) (by rw [hc10]; rfl) rfl ?_
            refine x_aload_n dX7_about_77 rfl 0 rfl ?_
            refine x_get (ci := 7) (k := 4) (v := .ref (a0 + 4)) dX7_about_78 wF_X7_19 (Nat.le_of_ble_eq_true rfl) (Nat.le_of_ble_eq_true rfl) hW.1 (congrArg va_rf (w7r_4 hW)) ?_
            refine x_iload_n dX7_about_81 rfl 1 rfl ?_
            obtain ⟨hv11, hw⟩ := hw
            refine x_ialdZ dX7_about_82 (w7k_4 hW) (w7z_4 hW) hv11 ?_
            exact x_iret dX7_about_83 rfl ⟨(xh_a σ (a0 + 4) l1.toNatClampNeg), rfl, rfl, hw⟩
          · replace hw := hw.2 hc10
            by_cases hc12 : l2 = 4
            · replace hw := hw.1 hc12
              refine x_tableIn (off := 73) 84 dX7_about_11 (by rw [hc12]; decide) (by rw [hc12]; decide) (by rw [hc12]; rfl) rfl ?_
              refine x_aload_n dX7_about_84 rfl 0 rfl ?_
              refine x_get (ci := 7) (k := 5) (v := .ref (a0 + 5)) dX7_about_85 wF_X7_22 (Nat.le_of_ble_eq_true rfl) (Nat.le_of_ble_eq_true rfl) hW.1 (congrArg va_rf (w7r_5 hW)) ?_
              refine x_iload_n dX7_about_88 rfl 1 rfl ?_
              obtain ⟨hv13, hw⟩ := hw
              refine x_ialdZ dX7_about_89 (w7k_5 hW) (w7z_5 hW) hv13 ?_
              exact x_iret dX7_about_90 rfl ⟨(xh_a σ (a0 + 5) l1.toNatClampNeg), rfl, rfl, hw⟩
            · replace hw := hw.2 hc12
              by_cases hc14 : l2 = 5
              · replace hw := hw.1 hc14
                refine x_tableIn (off := 80) 91 dX7_about_11 (by rw [hc14]; decide) (by rw [hc14]; decide) (by rw [hc14]; rfl) rfl ?_
                refine x_aload_n dX7_about_91 rfl 0 rfl ?_
                refine x_get (ci := 7) (k := 6) (v := .ref (a0 + 6)) dX7_about_92 wF_X7_25 (Nat.le_of_ble_eq_true rfl) (Nat.le_of_ble_eq_true rfl) hW.1 (congrArg va_rf (w7r_6 hW)) ?_
                refine x_iload_n dX7_about_95 rfl 1 rfl ?_
                obtain ⟨hv15, hw⟩ := hw
                refine x_zaldZ dX7_about_96 (w7k_6 hW) (w7z_6 hW) hv15 ?_
                refine x_if_eq 104 dX7_about_97 rfl (fun hc16 => ?_) (fun hc16 => ?_)
                · replace hw := hw.1 hc16
                  refine x_iconst dX7_about_104 cI_0 ?_
                  exact x_sub [0] rfl (xb_X7_about_105 hW hw)
                · replace hw := hw.2 hc16
                  refine x_iconst dX7_about_100 cI_1 ?_
                  refine x_goto 105 dX7_about_101 rfl ?_
                  exact x_sub [0] rfl (xb_X7_about_105 hW hw)
              · replace hw := hw.2 hc14
                by_cases hc17 : l2 = 6
                · replace hw := hw.1 hc17
                  refine x_tableIn (off := 95) 106 dX7_about_11 (by rw [hc17]; decide) (by rw [hc17]; decide) (by rw [hc17]; rfl) rfl ?_
                  refine x_aload_n dX7_about_106 rfl 0 rfl ?_
                  refine x_get (ci := 7) (k := 7) (v := .ref (a0 + 7)) dX7_about_107 wF_X7_29 (Nat.le_of_ble_eq_true rfl) (Nat.le_of_ble_eq_true rfl) hW.1 (congrArg va_rf (w7r_7 hW)) ?_
                  refine x_iload_n dX7_about_110 rfl 1 rfl ?_
                  obtain ⟨hv18, hw⟩ := hw
                  refine x_zaldZ dX7_about_111 (w7k_7 hW) (w7z_7 hW) hv18 ?_
                  refine x_if_eq 119 dX7_about_112 rfl (fun hc19 => ?_) (fun hc19 => ?_)
                  · replace hw := hw.1 hc19
                    refine x_iconst dX7_about_119 cI_0 ?_
                    exact x_sub [0] rfl (xb_X7_about_120 hW hw)
                  · replace hw := hw.2 hc19
                    refine x_iconst dX7_about_115 cI_1 ?_
                    refine x_goto 120 dX7_about_116 rfl ?_
                    exact x_sub [0] rfl (xb_X7_about_120 hW hw)
                · replace hw := hw.2 hc17
                  by_cases hc20 : l2 = 7
                  · replace hw := hw.1 hc20
                    refine x_tableIn (off := 110) 121 dX7_about_11 (by rw [hc20]; decide) (by rw [hc20]; decide) (by rw [hc20]; rfl) rfl ?_
                    refine x_aload_n dX7_about_121 rfl 0 rfl ?_
                    refine x_get (ci := 7) (k := 8) (v := .ref (a0 + 8)) dX7_about_122 wF_X7_32 (Nat.le_of_ble_eq_true rfl) (Nat.le_of_ble_eq_true rfl) hW.1 (congrArg va_rf (w7r_8 hW)) ?_
                    refine x_iload_n dX7_about_125 rfl 1 rfl ?_
                    obtain ⟨hv21, hw⟩ := hw
                    refine x_ialdZ dX7_about_126 (w7k_8 hW) (w7z_8 hW) hv21 ?_
                    exact x_iret dX7_about_127 rfl ⟨(xh_a σ (a0 + 8) l1.toNatClampNeg), rfl, rfl, hw⟩
                  · replace hw := hw.2 hc20
                    refine x_tableOut 128 dX7_about_11 (xsw_0_7 hc4 hc6 hc8 hc10 hc12 hc14 hc17 hc20) rfl ?_
                    refine x_iconst dX7_about_128 cI_m1 ?_
                    exact x_iret dX7_about_129 rfl ⟨(-1), rfl, rfl, hw⟩
  · replace hw := hw.1 hc3
    refine x_iconst dX7_about_8 cI_m1 ?_
    exact x_iret dX7_about_9 rfl ⟨(-1), rfl, rfl, hw⟩
-- PromiseWireModel.posts(IIIIIIIIZ)V
def wp_X7_posts (σ : xS) (a0 : Nat) (l1 : Int32) (l2 : Int32) (l3 : Int32) (l4 : Int32) (l5 : Int32) (l6 : Int32) (l7 : Int32) (l8 : Int32) (l9 : Int32) (Q : xS → Prop) : Prop := vp_in (xh_I σ 478 a0) 400 ∧ ∀ σ2, σ2 = xs_a σ (a0 + 27) (xh_I σ 478 a0).toNatClampNeg l1 → (vp_in (xh_I σ2 478 a0) 400 ∧ ∀ σ4, σ4 = xs_a σ2 (a0 + 28) (xh_I σ2 478 a0).toNatClampNeg l2 → (vp_in (xh_I σ4 478 a0) 400 ∧ ∀ σ6, σ6 = xs_a σ4 (a0 + 29) (xh_I σ4 478 a0).toNatClampNeg l3 → (vp_in (xh_I σ6 478 a0) 400 ∧ ∀ σ8, σ8 = xs_a σ6 (a0 + 30) (xh_I σ6 478 a0).toNatClampNeg l4 → (vp_in (xh_I σ8 478 a0) 400 ∧ ∀ σ10, σ10 = xs_a σ8 (a0 + 31) (xh_I σ8 478 a0).toNatClampNeg l5 → (vp_in (xh_I σ10 478 a0) 400 ∧ ∀ σ12, σ12 = xs_a σ10 (a0 + 32) (xh_I σ10 478 a0).toNatClampNeg l6 → (vp_in (xh_I σ12 478 a0) 400 ∧ ∀ σ14, σ14 = xs_a σ12 (a0 + 33) (xh_I σ12 478 a0).toNatClampNeg l7 → (vp_in (xh_I σ14 478 a0) 400 ∧ ∀ σ16, σ16 = xs_a σ14 (a0 + 34) (xh_I σ14 478 a0).toNatClampNeg l8 → (vp_in (xh_I σ16 478 a0) 400 ∧ (l9 = 0 ∨ l9 = 1) ∧ ∀ σ19, σ19 = xs_a σ16 (a0 + 35) (xh_I σ16 478 a0).toNatClampNeg l9 → (∀ σ20, σ20 = xs_I σ19 478 a0 ((xh_I σ19 478 a0) + 1) → (Q σ20))))))))))
set_option maxRecDepth 100000 in
set_option maxHeartbeats 4000000 in
theorem ct_X7_posts {σ : xS} {a0 : Nat}  {l1 : Int32} {l2 : Int32} {l3 : Int32} {l4 : Int32} {l5 : Int32} {l6 : Int32} {l7 : Int32} {l8 : Int32} {l9 : Int32} {Q : xS → Prop} (hW : xw7 σ a0) (hw : wp_X7_posts σ a0 l1 l2 l3 l4 l5 l6 l7 l8 l9 Q) : xCt M_X7_posts [.ref a0, .int l1, .int l2, .int l3, .int l4, .int l5, .int l6, .int l7, .int l8, .int l9] σ (xqV (fun σ2 => xw7 σ2 a0 ∧ Q σ2)) := by
  refine xCt_ofL (lv := [(0, .ref a0), (1, .int l1), (2, .int l2), (3, .int l3), (4, .int l4), (5, .int l5), (6, .int l6), (7, .int l7), (8, .int l8), (9, .int l9)]) pn_X7 (Nat.le_of_ble_eq_true rfl) rfl ?_
  unfold wp_X7_posts at hw
  refine x_aload_n dX7_posts_0 rfl 0 rfl ?_
  refine x_get (ci := 7) (k := 31) (v := .ref (a0 + 27)) dX7_posts_1 wF_X7_89 (Nat.le_of_ble_eq_true rfl) (Nat.le_of_ble_eq_true rfl) hW.1 (congrArg va_rf (w7r_27 hW)) ?_
  refine x_aload_n dX7_posts_4 rfl 0 rfl ?_
  refine x_get (ci := 7) (k := 30) (v := .int (xh_I σ 478 a0)) dX7_posts_5 wF_X7_147 (Nat.le_of_ble_eq_true rfl) (Nat.le_of_ble_eq_true rfl) hW.1 rfl ?_
  refine x_iload_n dX7_posts_8 rfl 1 rfl ?_
  obtain ⟨hv1, hw⟩ := hw
  refine x_iastN dX7_posts_9 (w7k_27 hW) (w7z_27 hW) hv1 (fun σ2 hσ2 => ?_)
  replace hw := hw σ2 hσ2
  refine x_aload_n dX7_posts_10 rfl 0 rfl ?_
  have hW := (xw7_a hσ2 hW)
  refine x_get (ci := 7) (k := 32) (v := .ref (a0 + 28)) dX7_posts_11 wF_X7_92 (Nat.le_of_ble_eq_true rfl) (Nat.le_of_ble_eq_true rfl) hW.1 (congrArg va_rf (w7r_28 hW)) ?_
  refine x_aload_n dX7_posts_14 rfl 0 rfl ?_
  refine x_get (ci := 7) (k := 30) (v := .int (xh_I σ2 478 a0)) dX7_posts_15 wF_X7_147 (Nat.le_of_ble_eq_true rfl) (Nat.le_of_ble_eq_true rfl) hW.1 rfl ?_
  refine x_iload_n dX7_posts_18 rfl 2 rfl ?_
  obtain ⟨hv3, hw⟩ := hw
  refine x_iastN dX7_posts_19 (w7k_28 hW) (w7z_28 hW) hv3 (fun σ4 hσ4 => ?_)
  replace hw := hw σ4 hσ4
  refine x_aload_n dX7_posts_20 rfl 0 rfl ?_
  have hW := (xw7_a hσ4 hW)
  refine x_get (ci := 7) (k := 33) (v := .ref (a0 + 29)) dX7_posts_21 wF_X7_95 (Nat.le_of_ble_eq_true rfl) (Nat.le_of_ble_eq_true rfl) hW.1 (congrArg va_rf (w7r_29 hW)) ?_
  refine x_aload_n dX7_posts_24 rfl 0 rfl ?_
  refine x_get (ci := 7) (k := 30) (v := .int (xh_I σ4 478 a0)) dX7_posts_25 wF_X7_147 (Nat.le_of_ble_eq_true rfl) (Nat.le_of_ble_eq_true rfl) hW.1 rfl ?_
  refine x_iload_n dX7_posts_28 rfl 3 rfl ?_
  obtain ⟨hv5, hw⟩ := hw
  refine x_iastN dX7_posts_29 (w7k_29 hW) (w7z_29 hW) hv5 (fun σ6 hσ6 => ?_)
  replace hw := hw σ6 hσ6
  refine x_aload_n dX7_posts_30 rfl 0 rfl ?_
  have hW := (xw7_a hσ6 hW)
  refine x_get (ci := 7) (k := 34) (v := .ref (a0 + 30)) dX7_posts_31 wF_X7_98 (Nat.le_of_ble_eq_true rfl) (Nat.le_of_ble_eq_true rfl) hW.1 (congrArg va_rf (w7r_30 hW)) ?_
  refine x_aload_n dX7_posts_34 rfl 0 rfl ?_
  refine x_get (ci := 7) (k := 30) (v := .int (xh_I σ6 478 a0)) dX7_posts_35 wF_X7_147 (Nat.le_of_ble_eq_true rfl) (Nat.le_of_ble_eq_true rfl) hW.1 rfl ?_
  refine x_iload dX7_posts_38 4 rfl ?_
  obtain ⟨hv7, hw⟩ := hw
  refine x_iastN dX7_posts_40 (w7k_30 hW) (w7z_30 hW) hv7 (fun σ8 hσ8 => ?_)
  replace hw := hw σ8 hσ8
  refine x_aload_n dX7_posts_41 rfl 0 rfl ?_
  have hW := (xw7_a hσ8 hW)
  refine x_get (ci := 7) (k := 35) (v := .ref (a0 + 31)) dX7_posts_42 wF_X7_101 (Nat.le_of_ble_eq_true rfl) (Nat.le_of_ble_eq_true rfl) hW.1 (congrArg va_rf (w7r_31 hW)) ?_
  refine x_aload_n dX7_posts_45 rfl 0 rfl ?_
  refine x_get (ci := 7) (k := 30) (v := .int (xh_I σ8 478 a0)) dX7_posts_46 wF_X7_147 (Nat.le_of_ble_eq_true rfl) (Nat.le_of_ble_eq_true rfl) hW.1 rfl ?_
  refine x_iload dX7_posts_49 5 rfl ?_
  obtain ⟨hv9, hw⟩ := hw
  refine x_iastN dX7_posts_51 (w7k_31 hW) (w7z_31 hW) hv9 (fun σ10 hσ10 => ?_)
  replace hw := hw σ10 hσ10
  refine x_aload_n dX7_posts_52 rfl 0 rfl ?_
  have hW := (xw7_a hσ10 hW)
  refine x_get (ci := 7) (k := 36) (v := .ref (a0 + 32)) dX7_posts_53 wF_X7_104 (Nat.le_of_ble_eq_true rfl) (Nat.le_of_ble_eq_true rfl) hW.1 (congrArg va_rf (w7r_32 hW)) ?_
  refine x_aload_n dX7_posts_56 rfl 0 rfl ?_
  refine x_get (ci := 7) (k := 30) (v := .int (xh_I σ10 478 a0)) dX7_posts_57 wF_X7_147 (Nat.le_of_ble_eq_true rfl) (Nat.le_of_ble_eq_true rfl) hW.1 rfl ?_
  refine x_iload dX7_posts_60 6 rfl ?_
  obtain ⟨hv11, hw⟩ := hw
  refine x_iastN dX7_posts_62 (w7k_32 hW) (w7z_32 hW) hv11 (fun σ12 hσ12 => ?_)
  replace hw := hw σ12 hσ12
  refine x_aload_n dX7_posts_63 rfl 0 rfl ?_
  have hW := (xw7_a hσ12 hW)
  refine x_get (ci := 7) (k := 37) (v := .ref (a0 + 33)) dX7_posts_64 wF_X7_107 (Nat.le_of_ble_eq_true rfl) (Nat.le_of_ble_eq_true rfl) hW.1 (congrArg va_rf (w7r_33 hW)) ?_
  refine x_aload_n dX7_posts_67 rfl 0 rfl ?_
  refine x_get (ci := 7) (k := 30) (v := .int (xh_I σ12 478 a0)) dX7_posts_68 wF_X7_147 (Nat.le_of_ble_eq_true rfl) (Nat.le_of_ble_eq_true rfl) hW.1 rfl ?_
  refine x_iload dX7_posts_71 7 rfl ?_
  obtain ⟨hv13, hw⟩ := hw
  refine x_iastN dX7_posts_73 (w7k_33 hW) (w7z_33 hW) hv13 (fun σ14 hσ14 => ?_)
  replace hw := hw σ14 hσ14
  refine x_aload_n dX7_posts_74 rfl 0 rfl ?_
  have hW := (xw7_a hσ14 hW)
  refine x_get (ci := 7) (k := 38) (v := .ref (a0 + 34)) dX7_posts_75 wF_X7_110 (Nat.le_of_ble_eq_true rfl) (Nat.le_of_ble_eq_true rfl) hW.1 (congrArg va_rf (w7r_34 hW)) ?_
  refine x_aload_n dX7_posts_78 rfl 0 rfl ?_
  refine x_get (ci := 7) (k := 30) (v := .int (xh_I σ14 478 a0)) dX7_posts_79 wF_X7_147 (Nat.le_of_ble_eq_true rfl) (Nat.le_of_ble_eq_true rfl) hW.1 rfl ?_
  refine x_iload dX7_posts_82 8 rfl ?_
  obtain ⟨hv15, hw⟩ := hw
  refine x_iastN dX7_posts_84 (w7k_34 hW) (w7z_34 hW) hv15 (fun σ16 hσ16 => ?_)
  replace hw := hw σ16 hσ16
  refine x_aload_n dX7_posts_85 rfl 0 rfl ?_
  have hW := (xw7_a hσ16 hW)
  refine x_get (ci := 7) (k := 39) (v := .ref (a0 + 35)) dX7_posts_86 wF_X7_113 (Nat.le_of_ble_eq_true rfl) (Nat.le_of_ble_eq_true rfl) hW.1 (congrArg va_rf (w7r_35 hW)) ?_
  refine x_aload_n dX7_posts_89 rfl 0 rfl ?_
  refine x_get (ci := 7) (k := 30) (v := .int (xh_I σ16 478 a0)) dX7_posts_90 wF_X7_147 (Nat.le_of_ble_eq_true rfl) (Nat.le_of_ble_eq_true rfl) hW.1 rfl ?_
  refine x_iload dX7_posts_93 9 rfl ?_
  obtain ⟨hv17, hw⟩ := hw
  obtain ⟨hz18, hw⟩ := hw
  refine x_zastN dX7_posts_95 (w7k_35 hW) (w7z_35 hW) hv17 hz18 (fun σ19 hσ19 => ?_)
  replace hw := hw σ19 hσ19
  refine x_aload_n dX7_posts_96 rfl 0 rfl ?_
  refine x_dup dX7_posts_97 rfl ?_
  have hW := (xw7_a hσ19 hW)
  refine x_get (ci := 7) (k := 30) (v := .int (xh_I σ19 478 a0)) dX7_posts_98 wF_X7_147 (Nat.le_of_ble_eq_true rfl) (Nat.le_of_ble_eq_true rfl) hW.1 rfl ?_
  refine x_iconst dX7_posts_101 cI_1 ?_
  refine x_iadd dX7_posts_102 ?_
  refine x_putIN (ci := 7) (k := 30) (f := 478) dX7_posts_103 wF_X7_147 (Nat.le_of_ble_eq_true rfl) (Nat.le_of_ble_eq_true rfl) hW.1 (Or.inl rfl) rfl (Or.inl rfl) (fun σ20 hσ20 => ?_)
  replace hw := hw σ20 hσ20
  have hW := (xw7_I hσ20 hW)
  exact x_vret dX7_posts_106 rfl ⟨rfl, hW, hw⟩
-- PromiseWireModel.sendsWhen(III)V
def wb_X7_sendsWhen_38 (Q : xS → Prop) (σ : xS) (a0 : Nat) : Prop := Q σ
set_option maxRecDepth 100000 in
set_option maxHeartbeats 4000000 in
theorem xb_X7_sendsWhen_38 {Q : xS → Prop} {σ : xS} {a0 : Nat}  (hW : xw7 σ a0)  (hw : wb_X7_sendsWhen_38 Q σ a0) : xX M_X7_sendsWhen 38 [(0, .ref a0)] [] σ (xqV (fun σ2 => xw7 σ2 a0 ∧ Q σ2)) := by
  unfold wb_X7_sendsWhen_38 at hw
  exact x_vret dX7_sendsWhen_38 rfl ⟨rfl, hW, hw⟩
def wp_X7_sendsWhen (σ : xS) (a0 : Nat) (l1 : Int32) (l2 : Int32) (l3 : Int32) (Q : xS → Prop) : Prop := vp_in l2 40 ∧ (vp_in ((4 * l1) + (xh_a σ (a0 + 1) l2.toNatClampNeg)) 16 ∧ (((xh_a σ (a0 + 36) ((4 * l1) + (xh_a σ (a0 + 1) l2.toNatClampNeg)).toNatClampNeg) = 0 → vp_in l2 40 ∧ (wp_X7_posts σ a0 2 l1 (xh_a σ (a0 + 1) l2.toNatClampNeg) (-9) l2 (-9) l3 0 0 (fun σ5 => wb_X7_sendsWhen_38 Q σ5 a0))) ∧ (¬ (xh_a σ (a0 + 36) ((4 * l1) + (xh_a σ (a0 + 1) l2.toNatClampNeg)).toNatClampNeg) = 0 → wb_X7_sendsWhen_38 Q σ a0)))
set_option maxRecDepth 100000 in
set_option maxHeartbeats 4000000 in
theorem ct_X7_sendsWhen {σ : xS} {a0 : Nat}  {l1 : Int32} {l2 : Int32} {l3 : Int32} {Q : xS → Prop} (hW : xw7 σ a0) (hw : wp_X7_sendsWhen σ a0 l1 l2 l3 Q) : xCt M_X7_sendsWhen [.ref a0, .int l1, .int l2, .int l3] σ (xqV (fun σ2 => xw7 σ2 a0 ∧ Q σ2)) := by
  refine xCt_ofL (lv := [(0, .ref a0), (1, .int l1), (2, .int l2), (3, .int l3)]) pn_X7 (Nat.le_of_ble_eq_true rfl) rfl ?_
  unfold wp_X7_sendsWhen at hw
  refine x_aload_n dX7_sendsWhen_0 rfl 0 rfl ?_
  refine x_get (ci := 7) (k := 40) (v := .ref (a0 + 36)) dX7_sendsWhen_1 wF_X7_116 (Nat.le_of_ble_eq_true rfl) (Nat.le_of_ble_eq_true rfl) hW.1 (congrArg va_rf (w7r_36 hW)) ?_
  refine x_iconst dX7_sendsWhen_4 cI_4 ?_
  refine x_iload_n dX7_sendsWhen_5 rfl 1 rfl ?_
  refine x_imul dX7_sendsWhen_6 ?_
  refine x_aload_n dX7_sendsWhen_7 rfl 0 rfl ?_
  refine x_get (ci := 7) (k := 1) (v := .ref (a0 + 1)) dX7_sendsWhen_8 wF_X7_7 (Nat.le_of_ble_eq_true rfl) (Nat.le_of_ble_eq_true rfl) hW.1 (congrArg va_rf (w7r_1 hW)) ?_
  refine x_iload_n dX7_sendsWhen_11 rfl 2 rfl ?_
  obtain ⟨hv1, hw⟩ := hw
  refine x_ialdZ dX7_sendsWhen_12 (w7k_1 hW) (w7z_1 hW) hv1 ?_
  refine x_iadd dX7_sendsWhen_13 ?_
  obtain ⟨hv2, hw⟩ := hw
  refine x_zaldZ dX7_sendsWhen_14 (w7k_36 hW) (w7z_36 hW) hv2 ?_
  refine x_if_ne 38 dX7_sendsWhen_15 rfl (fun hc3 => ?_) (fun hc3 => ?_)
  · replace hw := hw.2 hc3
    exact x_sub [0] rfl (xb_X7_sendsWhen_38 hW hw)
  · replace hw := hw.1 hc3
    refine x_aload_n dX7_sendsWhen_18 rfl 0 rfl ?_
    refine x_iconst dX7_sendsWhen_19 cI_2 ?_
    refine x_iload_n dX7_sendsWhen_20 rfl 1 rfl ?_
    refine x_aload_n dX7_sendsWhen_21 rfl 0 rfl ?_
    refine x_get (ci := 7) (k := 1) (v := .ref (a0 + 1)) dX7_sendsWhen_22 wF_X7_7 (Nat.le_of_ble_eq_true rfl) (Nat.le_of_ble_eq_true rfl) hW.1 (congrArg va_rf (w7r_1 hW)) ?_
    refine x_iload_n dX7_sendsWhen_25 rfl 2 rfl ?_
    obtain ⟨hv4, hw⟩ := hw
    refine x_ialdZ dX7_sendsWhen_26 (w7k_1 hW) (w7z_1 hW) hv4 ?_
    refine x_bipush dX7_sendsWhen_27 cB_m9 ?_
    refine x_iload_n dX7_sendsWhen_29 rfl 2 rfl ?_
    refine x_bipush dX7_sendsWhen_30 cB_m9 ?_
    refine x_iload_n dX7_sendsWhen_32 rfl 3 rfl ?_
    refine x_iconst dX7_sendsWhen_33 cI_0 ?_
    refine x_iconst dX7_sendsWhen_34 cI_0 ?_
    refine x_callV (M2 := M_X7_posts) (As := [.int 2, .int l1, .int (xh_a σ (a0 + 1) l2.toNatClampNeg), .int (-9), .int l2, .int (-9), .int l3, .int 0, .int 0]) (st := []) (ci := 7) (Nat.le_of_ble_eq_true rfl) hW.1 rfl wM_X7_150 wI_X7_posts wS_X7_posts dX7_sendsWhen_35 rfl ok_X7_posts ⟨(Nat.le_of_ble_eq_true rfl), (Nat.le_of_ble_eq_true rfl)⟩ (Nat.le_of_ble_eq_true rfl) (ct_X7_posts hW hw) (xqV.k (fun σ5 hw2 => ?_))
    obtain ⟨hW, hw⟩ := hw2
    exact x_sub [0] rfl (xb_X7_sendsWhen_38 hW hw)
-- PromiseWireModel.postsWhen(III)V
def wb_X7_postsWhen_31 (Q : xS → Prop) (σ : xS) (a0 : Nat) (s1 : Int32) (s2 : Int32) (s3 : Int32) : Prop := wp_X7_sendsWhen σ a0 s1 s2 s3 (fun σ1 => Q σ1)
set_option maxRecDepth 100000 in
set_option maxHeartbeats 4000000 in
theorem xb_X7_postsWhen_31 {Q : xS → Prop} {σ : xS} {a0 : Nat}  {s1 : Int32} {s2 : Int32} {s3 : Int32} (hW : xw7 σ a0)  (hw : wb_X7_postsWhen_31 Q σ a0 s1 s2 s3) : xX M_X7_postsWhen 31 [(0, .ref a0)] [.int s3, .int s2, .int s1, .ref a0] σ (xqV (fun σ2 => xw7 σ2 a0 ∧ Q σ2)) := by
  unfold wb_X7_postsWhen_31 at hw
  refine x_callV (M2 := M_X7_sendsWhen) (As := [.int s1, .int s2, .int s3]) (st := []) (ci := 7) (Nat.le_of_ble_eq_true rfl) hW.1 rfl wM_X7_154 wI_X7_sendsWhen wS_X7_sendsWhen dX7_postsWhen_31 rfl ok_X7_sendsWhen ⟨(Nat.le_of_ble_eq_true rfl), (Nat.le_of_ble_eq_true rfl)⟩ (Nat.le_of_ble_eq_true rfl) (ct_X7_sendsWhen hW hw) (xqV.k (fun σ1 hw2 => ?_))
  obtain ⟨hW, hw⟩ := hw2
  exact x_vret dX7_postsWhen_34 rfl ⟨rfl, hW, hw⟩
def wp_X7_postsWhen (σ : xS) (a0 : Nat) (l1 : Int32) (l2 : Int32) (l3 : Int32) (Q : xS → Prop) : Prop := vp_in l1 40 ∧ ∀ σ3, σ3 = xs_a σ (a0 + 26) l1.toNatClampNeg 1 → (vp_in l1 40 ∧ (vp_in l1 40 ∧ ((l2 = 3 → wb_X7_postsWhen_31 Q σ3 a0 (xh_a σ3 (a0 + 24) l1.toNatClampNeg) (xh_a σ3 (a0 + 25) l1.toNatClampNeg) (-l3)) ∧ (¬ l2 = 3 → wb_X7_postsWhen_31 Q σ3 a0 (xh_a σ3 (a0 + 24) l1.toNatClampNeg) (xh_a σ3 (a0 + 25) l1.toNatClampNeg) l3))))
set_option maxRecDepth 100000 in
set_option maxHeartbeats 4000000 in
theorem ct_X7_postsWhen {σ : xS} {a0 : Nat}  {l1 : Int32} {l2 : Int32} {l3 : Int32} {Q : xS → Prop} (hW : xw7 σ a0) (hw : wp_X7_postsWhen σ a0 l1 l2 l3 Q) : xCt M_X7_postsWhen [.ref a0, .int l1, .int l2, .int l3] σ (xqV (fun σ2 => xw7 σ2 a0 ∧ Q σ2)) := by
  refine xCt_ofL (lv := [(0, .ref a0), (1, .int l1), (2, .int l2), (3, .int l3)]) pn_X7 (Nat.le_of_ble_eq_true rfl) rfl ?_
  unfold wp_X7_postsWhen at hw
  refine x_aload_n dX7_postsWhen_0 rfl 0 rfl ?_
  refine x_get (ci := 7) (k := 29) (v := .ref (a0 + 26)) dX7_postsWhen_1 wF_X7_86 (Nat.le_of_ble_eq_true rfl) (Nat.le_of_ble_eq_true rfl) hW.1 (congrArg va_rf (w7r_26 hW)) ?_
  refine x_iload_n dX7_postsWhen_4 rfl 1 rfl ?_
  refine x_iconst dX7_postsWhen_5 cI_1 ?_
  obtain ⟨hv2, hw⟩ := hw
  refine x_zastN dX7_postsWhen_6 (w7k_26 hW) (w7z_26 hW) hv2 (Or.inr rfl) (fun σ3 hσ3 => ?_)
  replace hw := hw σ3 hσ3
  refine x_aload_n dX7_postsWhen_7 rfl 0 rfl ?_
  refine x_aload_n dX7_postsWhen_8 rfl 0 rfl ?_
  have hW := (xw7_a hσ3 hW)
  refine x_get (ci := 7) (k := 27) (v := .ref (a0 + 24)) dX7_postsWhen_9 wF_X7_80 (Nat.le_of_ble_eq_true rfl) (Nat.le_of_ble_eq_true rfl) hW.1 (congrArg va_rf (w7r_24 hW)) ?_
  refine x_iload_n dX7_postsWhen_12 rfl 1 rfl ?_
  obtain ⟨hv4, hw⟩ := hw
  refine x_ialdZ dX7_postsWhen_13 (w7k_24 hW) (w7z_24 hW) hv4 ?_
  refine x_aload_n dX7_postsWhen_14 rfl 0 rfl ?_
  refine x_get (ci := 7) (k := 28) (v := .ref (a0 + 25)) dX7_postsWhen_15 wF_X7_83 (Nat.le_of_ble_eq_true rfl) (Nat.le_of_ble_eq_true rfl) hW.1 (congrArg va_rf (w7r_25 hW)) ?_
  refine x_iload_n dX7_postsWhen_18 rfl 1 rfl ?_
  obtain ⟨hv5, hw⟩ := hw
  refine x_ialdZ dX7_postsWhen_19 (w7k_25 hW) (w7z_25 hW) hv5 ?_
  refine x_iload_n dX7_postsWhen_20 rfl 2 rfl ?_
  refine x_iconst dX7_postsWhen_21 cI_3 ?_
  refine x_icmp_ne 30 dX7_postsWhen_22 rfl (fun hc6 => ?_) (fun hc6 => ?_)
  · replace hw := hw.2 hc6
    refine x_iload_n dX7_postsWhen_30 rfl 3 rfl ?_
    exact x_sub [0] rfl (xb_X7_postsWhen_31 hW hw)
  · replace hw := hw.1 hc6
    refine x_iload_n dX7_postsWhen_25 rfl 3 rfl ?_
    refine x_ineg dX7_postsWhen_26 ?_
    refine x_goto 31 dX7_postsWhen_27 rfl ?_
    exact x_sub [0] rfl (xb_X7_postsWhen_31 hW hw)
-- PromiseWireModel.postsWhens(IIII)V
def wb_X7_postsWhens_53 (Q : xS → Prop) (K3 : xS → Int32 → Int32 → Int32 → Int32 → Int32 → Prop) (σ : xS) (a0 : Nat) (l1 : Int32) (l2 : Int32) (l3 : Int32) (l4 : Int32) (l5 : Int32) : Prop := K3 σ l1 l2 l3 l4 (l5 + 1)
set_option maxRecDepth 100000 in
set_option maxHeartbeats 4000000 in
theorem xb_X7_postsWhens_53 {Q : xS → Prop} {K3 : xS → Int32 → Int32 → Int32 → Int32 → Int32 → Prop} {σ : xS} {a0 : Nat}  {l1 : Int32} {l2 : Int32} {l3 : Int32} {l4 : Int32} {l5 : Int32} (hW : xw7 σ a0)  (hK3 : ∀ (σ : xS) (l1 : Int32) (l2 : Int32) (l3 : Int32) (l4 : Int32) (l5 : Int32), xw7 σ a0 → K3 σ l1 l2 l3 l4 l5 → xX M_X7_postsWhens 3 [(0, .ref a0), (1, .int l1), (2, .int l2), (3, .int l3), (4, .int l4), (5, .int l5)] [] σ (xqV (fun σ2 => xw7 σ2 a0 ∧ Q σ2))) (hw : wb_X7_postsWhens_53 Q K3 σ a0 l1 l2 l3 l4 l5) : xX M_X7_postsWhens 53 [(0, .ref a0), (1, .int l1), (2, .int l2), (3, .int l3), (4, .int l4), (5, .int l5)] [] σ (xqV (fun σ2 => xw7 σ2 a0 ∧ Q σ2)) := by
  unfold wb_X7_postsWhens_53 at hw
  refine x_iinc [(5, .int (l5 + 1)), (0, .ref a0), (1, .int l1), (2, .int l2), (3, .int l3), (4, .int l4)] dX7_postsWhens_53 5 rfl (congrArg _ cI_1) (Nat.le_of_ble_eq_true rfl) rfl ?_
  refine x_goto 3 dX7_postsWhens_56 rfl ?_
  exact x_sub [1, 2, 3, 4, 5, 0] rfl (hK3 _ _ _ _ _ _ hW hw)
def wb_X7_postsWhens_3 (Q : xS → Prop) (a0 : Nat) : Nat → xS → Int32 → Int32 → Int32 → Int32 → Int32 → Prop
  | 0, _, _, _, _, _, _ => False
  | n + 1, σ, l1, l2, l3, l4, l5 => ((xh_I σ 473 a0) ≤ l5 → Q σ) ∧ (¬ (xh_I σ 473 a0) ≤ l5 → vp_in l5 40 ∧ (((xh_a σ (a0 + 23) l5.toNatClampNeg) = l1 → vp_in l5 40 ∧ (((xh_a σ (a0 + 24) l5.toNatClampNeg) = l2 → vp_in l5 40 ∧ (((xh_a σ (a0 + 26) l5.toNatClampNeg) = 0 → wp_X7_postsWhen σ a0 l5 l3 l4 (fun σ8 => wb_X7_postsWhens_53 Q (fun σ l1 l2 l3 l4 l5 => wb_X7_postsWhens_3 Q a0 n σ l1 l2 l3 l4 l5) σ8 a0 l1 l2 l3 l4 l5)) ∧ (¬ (xh_a σ (a0 + 26) l5.toNatClampNeg) = 0 → wb_X7_postsWhens_53 Q (fun σ l1 l2 l3 l4 l5 => wb_X7_postsWhens_3 Q a0 n σ l1 l2 l3 l4 l5) σ a0 l1 l2 l3 l4 l5))) ∧ (¬ (xh_a σ (a0 + 24) l5.toNatClampNeg) = l2 → wb_X7_postsWhens_53 Q (fun σ l1 l2 l3 l4 l5 => wb_X7_postsWhens_3 Q a0 n σ l1 l2 l3 l4 l5) σ a0 l1 l2 l3 l4 l5))) ∧ (¬ (xh_a σ (a0 + 23) l5.toNatClampNeg) = l1 → wb_X7_postsWhens_53 Q (fun σ l1 l2 l3 l4 l5 => wb_X7_postsWhens_3 Q a0 n σ l1 l2 l3 l4 l5) σ a0 l1 l2 l3 l4 l5)))
set_option maxRecDepth 100000 in
set_option maxHeartbeats 4000000 in
theorem xl_X7_postsWhens_3 {Q : xS → Prop} {a0 : Nat}  : ∀ (n : Nat) (σ : xS) (l1 : Int32) (l2 : Int32) (l3 : Int32) (l4 : Int32) (l5 : Int32), xw7 σ a0 → wb_X7_postsWhens_3 Q a0 n σ l1 l2 l3 l4 l5 → xX M_X7_postsWhens 3 [(0, .ref a0), (1, .int l1), (2, .int l2), (3, .int l3), (4, .int l4), (5, .int l5)] [] σ (xqV (fun σ2 => xw7 σ2 a0 ∧ Q σ2)) := by
  intro n
  induction n with
  | zero => intro σ l1 l2 l3 l4 l5 hW hw; exact False.elim hw
  | succ n ih =>
    intro σ l1 l2 l3 l4 l5 hW hw
    unfold wb_X7_postsWhens_3 at hw
    refine x_iload dX7_postsWhens_3 5 rfl ?_
    refine x_aload_n dX7_postsWhens_5 rfl 0 rfl ?_
    refine x_get (ci := 7) (k := 25) (v := .int (xh_I σ 473 a0)) dX7_postsWhens_6 wF_X7_158 (Nat.le_of_ble_eq_true rfl) (Nat.le_of_ble_eq_true rfl) hW.1 rfl ?_
    refine x_icmp_ge 59 dX7_postsWhens_9 rfl (fun hc1 => ?_) (fun hc1 => ?_)
    · replace hw := hw.1 hc1
      exact x_vret dX7_postsWhens_59 rfl ⟨rfl, hW, hw⟩
    · replace hw := hw.2 hc1
      refine x_aload_n dX7_postsWhens_12 rfl 0 rfl ?_
      refine x_get (ci := 7) (k := 26) (v := .ref (a0 + 23)) dX7_postsWhens_13 wF_X7_77 (Nat.le_of_ble_eq_true rfl) (Nat.le_of_ble_eq_true rfl) hW.1 (congrArg va_rf (w7r_23 hW)) ?_
      refine x_iload dX7_postsWhens_16 5 rfl ?_
      obtain ⟨hv2, hw⟩ := hw
      refine x_ialdZ dX7_postsWhens_18 (w7k_23 hW) (w7z_23 hW) hv2 ?_
      refine x_iload_n dX7_postsWhens_19 rfl 1 rfl ?_
      refine x_icmp_ne 53 dX7_postsWhens_20 rfl (fun hc3 => ?_) (fun hc3 => ?_)
      · replace hw := hw.2 hc3
        exact x_sub [0, 1, 2, 3, 4, 5] rfl (xb_X7_postsWhens_53 hW ih hw)
      · replace hw := hw.1 hc3
        refine x_aload_n dX7_postsWhens_23 rfl 0 rfl ?_
        refine x_get (ci := 7) (k := 27) (v := .ref (a0 + 24)) dX7_postsWhens_24 wF_X7_80 (Nat.le_of_ble_eq_true rfl) (Nat.le_of_ble_eq_true rfl) hW.1 (congrArg va_rf (w7r_24 hW)) ?_
        refine x_iload dX7_postsWhens_27 5 rfl ?_
        obtain ⟨hv4, hw⟩ := hw
        refine x_ialdZ dX7_postsWhens_29 (w7k_24 hW) (w7z_24 hW) hv4 ?_
        refine x_iload_n dX7_postsWhens_30 rfl 2 rfl ?_
        refine x_icmp_ne 53 dX7_postsWhens_31 rfl (fun hc5 => ?_) (fun hc5 => ?_)
        · replace hw := hw.2 hc5
          exact x_sub [0, 1, 2, 3, 4, 5] rfl (xb_X7_postsWhens_53 hW ih hw)
        · replace hw := hw.1 hc5
          refine x_aload_n dX7_postsWhens_34 rfl 0 rfl ?_
          refine x_get (ci := 7) (k := 29) (v := .ref (a0 + 26)) dX7_postsWhens_35 wF_X7_86 (Nat.le_of_ble_eq_true rfl) (Nat.le_of_ble_eq_true rfl) hW.1 (congrArg va_rf (w7r_26 hW)) ?_
          refine x_iload dX7_postsWhens_38 5 rfl ?_
          obtain ⟨hv6, hw⟩ := hw
          refine x_zaldZ dX7_postsWhens_40 (w7k_26 hW) (w7z_26 hW) hv6 ?_
          refine x_if_ne 53 dX7_postsWhens_41 rfl (fun hc7 => ?_) (fun hc7 => ?_)
          · replace hw := hw.2 hc7
            exact x_sub [0, 1, 2, 3, 4, 5] rfl (xb_X7_postsWhens_53 hW ih hw)
          · replace hw := hw.1 hc7
            refine x_aload_n dX7_postsWhens_44 rfl 0 rfl ?_
            refine x_iload dX7_postsWhens_45 5 rfl ?_
            refine x_iload_n dX7_postsWhens_47 rfl 3 rfl ?_
            refine x_iload dX7_postsWhens_48 4 rfl ?_
            refine x_callV (M2 := M_X7_postsWhen) (As := [.int l5, .int l3, .int l4]) (st := []) (ci := 7) (Nat.le_of_ble_eq_true rfl) hW.1 rfl wM_X7_161 wI_X7_postsWhen wS_X7_postsWhen dX7_postsWhens_50 rfl ok_X7_postsWhen ⟨(Nat.le_of_ble_eq_true rfl), (Nat.le_of_ble_eq_true rfl)⟩ (Nat.le_of_ble_eq_true rfl) (ct_X7_postsWhen hW hw) (xqV.k (fun σ8 hw2 => ?_))
            obtain ⟨hW, hw⟩ := hw2
            exact x_sub [0, 1, 2, 3, 4, 5] rfl (xb_X7_postsWhens_53 hW ih hw)
def wp_X7_postsWhens (σ : xS) (a0 : Nat) (l1 : Int32) (l2 : Int32) (l3 : Int32) (l4 : Int32) (Q : xS → Prop) : Prop := ∃ m3, wb_X7_postsWhens_3 Q a0 m3 σ l1 l2 l3 l4 0
set_option maxRecDepth 100000 in
set_option maxHeartbeats 4000000 in
theorem ct_X7_postsWhens {σ : xS} {a0 : Nat}  {l1 : Int32} {l2 : Int32} {l3 : Int32} {l4 : Int32} {Q : xS → Prop} (hW : xw7 σ a0) (hw : wp_X7_postsWhens σ a0 l1 l2 l3 l4 Q) : xCt M_X7_postsWhens [.ref a0, .int l1, .int l2, .int l3, .int l4] σ (xqV (fun σ2 => xw7 σ2 a0 ∧ Q σ2)) := by
  refine xCt_ofL (lv := [(0, .ref a0), (1, .int l1), (2, .int l2), (3, .int l3), (4, .int l4)]) pn_X7 (Nat.le_of_ble_eq_true rfl) rfl ?_
  unfold wp_X7_postsWhens at hw
  refine x_iconst dX7_postsWhens_0 cI_0 ?_
  refine x_istore [(5, .int 0), (0, .ref a0), (1, .int l1), (2, .int l2), (3, .int l3), (4, .int l4)] dX7_postsWhens_1 (Nat.le_of_ble_eq_true rfl) rfl ?_
  obtain ⟨m3, hw⟩ := hw
  exact x_sub [1, 2, 3, 4, 5, 0] rfl (xl_X7_postsWhens_3 m3 _ _ _ _ _ _ hW hw)
-- PromiseWireModel.isToBeDone(III)V
def wp_X7_isToBeDone (σ : xS) (a0 : Nat) (l1 : Int32) (l2 : Int32) (l3 : Int32) (Q : xS → Prop) : Prop := vp_in (xh_I σ 489 a0) 400 ∧ ∀ σ2, σ2 = xs_a σ (a0 + 37) (xh_I σ 489 a0).toNatClampNeg l1 → (vp_in (xh_I σ2 489 a0) 400 ∧ ∀ σ4, σ4 = xs_a σ2 (a0 + 38) (xh_I σ2 489 a0).toNatClampNeg l2 → (vp_in (xh_I σ4 489 a0) 400 ∧ ∀ σ6, σ6 = xs_a σ4 (a0 + 39) (xh_I σ4 489 a0).toNatClampNeg l3 → (∀ σ7, σ7 = xs_I σ6 489 a0 ((xh_I σ6 489 a0) + 1) → (Q σ7))))
set_option maxRecDepth 100000 in
set_option maxHeartbeats 4000000 in
theorem ct_X7_isToBeDone {σ : xS} {a0 : Nat}  {l1 : Int32} {l2 : Int32} {l3 : Int32} {Q : xS → Prop} (hW : xw7 σ a0) (hw : wp_X7_isToBeDone σ a0 l1 l2 l3 Q) : xCt M_X7_isToBeDone [.ref a0, .int l1, .int l2, .int l3] σ (xqV (fun σ2 => xw7 σ2 a0 ∧ Q σ2)) := by
  refine xCt_ofL (lv := [(0, .ref a0), (1, .int l1), (2, .int l2), (3, .int l3)]) pn_X7 (Nat.le_of_ble_eq_true rfl) rfl ?_
  unfold wp_X7_isToBeDone at hw
  refine x_aload_n dX7_isToBeDone_0 rfl 0 rfl ?_
  refine x_get (ci := 7) (k := 42) (v := .ref (a0 + 37)) dX7_isToBeDone_1 wF_X7_119 (Nat.le_of_ble_eq_true rfl) (Nat.le_of_ble_eq_true rfl) hW.1 (congrArg va_rf (w7r_37 hW)) ?_
  refine x_aload_n dX7_isToBeDone_4 rfl 0 rfl ?_
  refine x_get (ci := 7) (k := 41) (v := .int (xh_I σ 489 a0)) dX7_isToBeDone_5 wF_X7_164 (Nat.le_of_ble_eq_true rfl) (Nat.le_of_ble_eq_true rfl) hW.1 rfl ?_
  refine x_iload_n dX7_isToBeDone_8 rfl 1 rfl ?_
  obtain ⟨hv1, hw⟩ := hw
  refine x_iastN dX7_isToBeDone_9 (w7k_37 hW) (w7z_37 hW) hv1 (fun σ2 hσ2 => ?_)
  replace hw := hw σ2 hσ2
  refine x_aload_n dX7_isToBeDone_10 rfl 0 rfl ?_
  have hW := (xw7_a hσ2 hW)
  refine x_get (ci := 7) (k := 43) (v := .ref (a0 + 38)) dX7_isToBeDone_11 wF_X7_122 (Nat.le_of_ble_eq_true rfl) (Nat.le_of_ble_eq_true rfl) hW.1 (congrArg va_rf (w7r_38 hW)) ?_
  refine x_aload_n dX7_isToBeDone_14 rfl 0 rfl ?_
  refine x_get (ci := 7) (k := 41) (v := .int (xh_I σ2 489 a0)) dX7_isToBeDone_15 wF_X7_164 (Nat.le_of_ble_eq_true rfl) (Nat.le_of_ble_eq_true rfl) hW.1 rfl ?_
  refine x_iload_n dX7_isToBeDone_18 rfl 2 rfl ?_
  obtain ⟨hv3, hw⟩ := hw
  refine x_iastN dX7_isToBeDone_19 (w7k_38 hW) (w7z_38 hW) hv3 (fun σ4 hσ4 => ?_)
  replace hw := hw σ4 hσ4
  refine x_aload_n dX7_isToBeDone_20 rfl 0 rfl ?_
  have hW := (xw7_a hσ4 hW)
  refine x_get (ci := 7) (k := 44) (v := .ref (a0 + 39)) dX7_isToBeDone_21 wF_X7_125 (Nat.le_of_ble_eq_true rfl) (Nat.le_of_ble_eq_true rfl) hW.1 (congrArg va_rf (w7r_39 hW)) ?_
  refine x_aload_n dX7_isToBeDone_24 rfl 0 rfl ?_
  refine x_get (ci := 7) (k := 41) (v := .int (xh_I σ4 489 a0)) dX7_isToBeDone_25 wF_X7_164 (Nat.le_of_ble_eq_true rfl) (Nat.le_of_ble_eq_true rfl) hW.1 rfl ?_
  refine x_iload_n dX7_isToBeDone_28 rfl 3 rfl ?_
  obtain ⟨hv5, hw⟩ := hw
  refine x_iastN dX7_isToBeDone_29 (w7k_39 hW) (w7z_39 hW) hv5 (fun σ6 hσ6 => ?_)
  replace hw := hw σ6 hσ6
  refine x_aload_n dX7_isToBeDone_30 rfl 0 rfl ?_
  refine x_dup dX7_isToBeDone_31 rfl ?_
  have hW := (xw7_a hσ6 hW)
  refine x_get (ci := 7) (k := 41) (v := .int (xh_I σ6 489 a0)) dX7_isToBeDone_32 wF_X7_164 (Nat.le_of_ble_eq_true rfl) (Nat.le_of_ble_eq_true rfl) hW.1 rfl ?_
  refine x_iconst dX7_isToBeDone_35 cI_1 ?_
  refine x_iadd dX7_isToBeDone_36 ?_
  refine x_putIN (ci := 7) (k := 41) (f := 489) dX7_isToBeDone_37 wF_X7_164 (Nat.le_of_ble_eq_true rfl) (Nat.le_of_ble_eq_true rfl) hW.1 (Or.inl rfl) rfl (Or.inl rfl) (fun σ7 hσ7 => ?_)
  replace hw := hw σ7 hσ7
  have hW := (xw7_I hσ7 hW)
  exact x_vret dX7_isToBeDone_40 rfl ⟨rfl, hW, hw⟩
-- PromiseWireModel.arrives(III)V
def wp_X7_arrives (σ : xS) (a0 : Nat) (l1 : Int32) (l2 : Int32) (l3 : Int32) (Q : xS → Prop) : Prop := vp_in l1 100 ∧ ∀ σ2, σ2 = xs_a σ (a0 + 13) l1.toNatClampNeg l2 → (vp_in l1 100 ∧ ∀ σ4, σ4 = xs_a σ2 (a0 + 14) l1.toNatClampNeg l3 → (vp_in l1 100 ∧ (wp_X7_postsWhens σ4 a0 l1 (xh_a σ4 (a0 + 9) l1.toNatClampNeg) l2 l3 (fun σ6 => Q σ6))))
set_option maxRecDepth 100000 in
set_option maxHeartbeats 4000000 in
theorem ct_X7_arrives {σ : xS} {a0 : Nat}  {l1 : Int32} {l2 : Int32} {l3 : Int32} {Q : xS → Prop} (hW : xw7 σ a0) (hw : wp_X7_arrives σ a0 l1 l2 l3 Q) : xCt M_X7_arrives [.ref a0, .int l1, .int l2, .int l3] σ (xqV (fun σ2 => xw7 σ2 a0 ∧ Q σ2)) := by
  refine xCt_ofL (lv := [(0, .ref a0), (1, .int l1), (2, .int l2), (3, .int l3)]) pn_X7 (Nat.le_of_ble_eq_true rfl) rfl ?_
  unfold wp_X7_arrives at hw
  refine x_aload_n dX7_arrives_0 rfl 0 rfl ?_
  refine x_get (ci := 7) (k := 14) (v := .ref (a0 + 13)) dX7_arrives_1 wF_X7_47 (Nat.le_of_ble_eq_true rfl) (Nat.le_of_ble_eq_true rfl) hW.1 (congrArg va_rf (w7r_13 hW)) ?_
  refine x_iload_n dX7_arrives_4 rfl 1 rfl ?_
  refine x_iload_n dX7_arrives_5 rfl 2 rfl ?_
  obtain ⟨hv1, hw⟩ := hw
  refine x_iastN dX7_arrives_6 (w7k_13 hW) (w7z_13 hW) hv1 (fun σ2 hσ2 => ?_)
  replace hw := hw σ2 hσ2
  refine x_aload_n dX7_arrives_7 rfl 0 rfl ?_
  have hW := (xw7_a hσ2 hW)
  refine x_get (ci := 7) (k := 15) (v := .ref (a0 + 14)) dX7_arrives_8 wF_X7_50 (Nat.le_of_ble_eq_true rfl) (Nat.le_of_ble_eq_true rfl) hW.1 (congrArg va_rf (w7r_14 hW)) ?_
  refine x_iload_n dX7_arrives_11 rfl 1 rfl ?_
  refine x_iload_n dX7_arrives_12 rfl 3 rfl ?_
  obtain ⟨hv3, hw⟩ := hw
  refine x_iastN dX7_arrives_13 (w7k_14 hW) (w7z_14 hW) hv3 (fun σ4 hσ4 => ?_)
  replace hw := hw σ4 hσ4
  refine x_aload_n dX7_arrives_14 rfl 0 rfl ?_
  refine x_iload_n dX7_arrives_15 rfl 1 rfl ?_
  refine x_aload_n dX7_arrives_16 rfl 0 rfl ?_
  have hW := (xw7_a hσ4 hW)
  refine x_get (ci := 7) (k := 10) (v := .ref (a0 + 9)) dX7_arrives_17 wF_X7_35 (Nat.le_of_ble_eq_true rfl) (Nat.le_of_ble_eq_true rfl) hW.1 (congrArg va_rf (w7r_9 hW)) ?_
  refine x_iload_n dX7_arrives_20 rfl 1 rfl ?_
  obtain ⟨hv5, hw⟩ := hw
  refine x_ialdZ dX7_arrives_21 (w7k_9 hW) (w7z_9 hW) hv5 ?_
  refine x_iload_n dX7_arrives_22 rfl 2 rfl ?_
  refine x_iload_n dX7_arrives_23 rfl 3 rfl ?_
  refine x_callV (M2 := M_X7_postsWhens) (As := [.int l1, .int (xh_a σ4 (a0 + 9) l1.toNatClampNeg), .int l2, .int l3]) (st := []) (ci := 7) (Nat.le_of_ble_eq_true rfl) hW.1 rfl wM_X7_167 wI_X7_postsWhens wS_X7_postsWhens dX7_arrives_24 rfl ok_X7_postsWhens ⟨(Nat.le_of_ble_eq_true rfl), (Nat.le_of_ble_eq_true rfl)⟩ (Nat.le_of_ble_eq_true rfl) (ct_X7_postsWhens hW hw) (xqV.k (fun σ6 hw2 => ?_))
  obtain ⟨hW, hw⟩ := hw2
  exact x_vret dX7_arrives_27 rfl ⟨rfl, hW, hw⟩
-- PromiseWireModel.comesBack(IIIZ)V
def wb_X7_comesBack_22 (Q : xS → Prop) (σ : xS) (a0 : Nat) : Prop := Q σ
set_option maxRecDepth 100000 in
set_option maxHeartbeats 4000000 in
theorem xb_X7_comesBack_22 {Q : xS → Prop} {σ : xS} {a0 : Nat}  (hW : xw7 σ a0)  (hw : wb_X7_comesBack_22 Q σ a0) : xX M_X7_comesBack 22 [(0, .ref a0)] [] σ (xqV (fun σ2 => xw7 σ2 a0 ∧ Q σ2)) := by
  unfold wb_X7_comesBack_22 at hw
  exact x_vret dX7_comesBack_22 rfl ⟨rfl, hW, hw⟩
def wp_X7_comesBack (σ : xS) (a0 : Nat) (l1 : Int32) (l2 : Int32) (l3 : Int32) (l4 : Int32) (Q : xS → Prop) : Prop := (l4 = 0 → wp_X7_isToBeDone σ a0 l1 l2 l3 (fun σ2 => wb_X7_comesBack_22 Q σ2 a0)) ∧ (¬ l4 = 0 → wp_X7_arrives σ a0 l1 l2 l3 (fun σ3 => wb_X7_comesBack_22 Q σ3 a0))
set_option maxRecDepth 100000 in
set_option maxHeartbeats 4000000 in
theorem ct_X7_comesBack {σ : xS} {a0 : Nat}  {l1 : Int32} {l2 : Int32} {l3 : Int32} {l4 : Int32} {Q : xS → Prop} (hW : xw7 σ a0) (hw : wp_X7_comesBack σ a0 l1 l2 l3 l4 Q) : xCt M_X7_comesBack [.ref a0, .int l1, .int l2, .int l3, .int l4] σ (xqV (fun σ2 => xw7 σ2 a0 ∧ Q σ2)) := by
  refine xCt_ofL (lv := [(0, .ref a0), (1, .int l1), (2, .int l2), (3, .int l3), (4, .int l4)]) pn_X7 (Nat.le_of_ble_eq_true rfl) rfl ?_
  unfold wp_X7_comesBack at hw
  refine x_iload dX7_comesBack_0 4 rfl ?_
  refine x_if_eq 15 dX7_comesBack_2 rfl (fun hc1 => ?_) (fun hc1 => ?_)
  · replace hw := hw.1 hc1
    refine x_aload_n dX7_comesBack_15 rfl 0 rfl ?_
    refine x_iload_n dX7_comesBack_16 rfl 1 rfl ?_
    refine x_iload_n dX7_comesBack_17 rfl 2 rfl ?_
    refine x_iload_n dX7_comesBack_18 rfl 3 rfl ?_
    refine x_callV (M2 := M_X7_isToBeDone) (As := [.int l1, .int l2, .int l3]) (st := []) (ci := 7) (Nat.le_of_ble_eq_true rfl) hW.1 rfl wM_X7_174 wI_X7_isToBeDone wS_X7_isToBeDone dX7_comesBack_19 rfl ok_X7_isToBeDone ⟨(Nat.le_of_ble_eq_true rfl), (Nat.le_of_ble_eq_true rfl)⟩ (Nat.le_of_ble_eq_true rfl) (ct_X7_isToBeDone hW hw) (xqV.k (fun σ2 hw2 => ?_))
    obtain ⟨hW, hw⟩ := hw2
    exact x_sub [0] rfl (xb_X7_comesBack_22 hW hw)
  · replace hw := hw.2 hc1
    refine x_aload_n dX7_comesBack_5 rfl 0 rfl ?_
    refine x_iload_n dX7_comesBack_6 rfl 1 rfl ?_
    refine x_iload_n dX7_comesBack_7 rfl 2 rfl ?_
    refine x_iload_n dX7_comesBack_8 rfl 3 rfl ?_
    refine x_callV (M2 := M_X7_arrives) (As := [.int l1, .int l2, .int l3]) (st := []) (ci := 7) (Nat.le_of_ble_eq_true rfl) hW.1 rfl wM_X7_171 wI_X7_arrives wS_X7_arrives dX7_comesBack_9 rfl ok_X7_arrives ⟨(Nat.le_of_ble_eq_true rfl), (Nat.le_of_ble_eq_true rfl)⟩ (Nat.le_of_ble_eq_true rfl) (ct_X7_arrives hW hw) (xqV.k (fun σ3 hw2 => ?_))
    obtain ⟨hW, hw⟩ := hw2
    refine x_goto 22 dX7_comesBack_12 rfl ?_
    exact x_sub [0] rfl (xb_X7_comesBack_22 hW hw)
-- PromiseWireModel.sendsAnswer(IIIIZ)V
def wb_X7_sendsAnswer_76 (Q : xS → Prop) (σ : xS) (a0 : Nat) : Prop := Q σ
set_option maxRecDepth 100000 in
set_option maxHeartbeats 4000000 in
theorem xb_X7_sendsAnswer_76 {Q : xS → Prop} {σ : xS} {a0 : Nat}  (hW : xw7 σ a0)  (hw : wb_X7_sendsAnswer_76 Q σ a0) : xX M_X7_sendsAnswer 76 [(0, .ref a0)] [] σ (xqV (fun σ2 => xw7 σ2 a0 ∧ Q σ2)) := by
  unfold wb_X7_sendsAnswer_76 at hw
  exact x_vret dX7_sendsAnswer_76 rfl ⟨rfl, hW, hw⟩
def wb_X7_sendsAnswer_20 (Q : xS → Prop) (σ : xS) (a0 : Nat) (l1 : Int32) (l2 : Int32) (l3 : Int32) (l4 : Int32) (l5 : Int32) (s0 : Int32) : Prop := vp_in l2 100 ∧ (vp_in l2 100 ∧ ∀ σ3, σ3 = xs_a σ (a0 + 15) l2.toNatClampNeg ((xh_a σ (a0 + 15) l2.toNatClampNeg) + 1) → (vp_in ((4 * l1) + s0) 16 ∧ (((xh_a σ3 (a0 + 36) ((4 * l1) + s0).toNatClampNeg) = 0 → wp_X7_posts σ3 a0 1 l1 s0 l2 (-9) (-9) l3 l4 l5 (fun σ6 => wb_X7_sendsAnswer_76 Q σ6 a0)) ∧ (¬ (xh_a σ3 (a0 + 36) ((4 * l1) + s0).toNatClampNeg) = 0 → wp_X7_comesBack σ3 a0 l2 3 1 l5 (fun σ7 => wb_X7_sendsAnswer_76 Q σ7 a0)))))
set_option maxRecDepth 100000 in
set_option maxHeartbeats 4000000 in
theorem xb_X7_sendsAnswer_20 {Q : xS → Prop} {σ : xS} {a0 : Nat}  {l1 : Int32} {l2 : Int32} {l3 : Int32} {l4 : Int32} {l5 : Int32} {s0 : Int32} (hW : xw7 σ a0)  (hw : wb_X7_sendsAnswer_20 Q σ a0 l1 l2 l3 l4 l5 s0) : xX M_X7_sendsAnswer 20 [(0, .ref a0), (1, .int l1), (2, .int l2), (3, .int l3), (4, .int l4), (5, .int l5)] [.int s0] σ (xqV (fun σ2 => xw7 σ2 a0 ∧ Q σ2)) := by
  unfold wb_X7_sendsAnswer_20 at hw
  refine x_istore [(6, .int s0), (0, .ref a0), (1, .int l1), (2, .int l2), (3, .int l3), (4, .int l4), (5, .int l5)] dX7_sendsAnswer_20 (Nat.le_of_ble_eq_true rfl) rfl ?_
  refine x_aload_n dX7_sendsAnswer_22 rfl 1 rfl ?_
  refine x_get (ci := 7) (k := 16) (v := .ref (a0 + 15)) dX7_sendsAnswer_23 wF_X7_53 (Nat.le_of_ble_eq_true rfl) (Nat.le_of_ble_eq_true rfl) hW.1 (congrArg va_rf (w7r_15 hW)) ?_
  refine x_iload_n dX7_sendsAnswer_26 rfl 3 rfl ?_
  refine x_dup2 dX7_sendsAnswer_27 rfl rfl ?_
  obtain ⟨hv1, hw⟩ := hw
  refine x_ialdZ dX7_sendsAnswer_28 (w7k_15 hW) (w7z_15 hW) hv1 ?_
  refine x_iconst dX7_sendsAnswer_29 cI_1 ?_
  refine x_iadd dX7_sendsAnswer_30 ?_
  obtain ⟨hv2, hw⟩ := hw
  refine x_iastN dX7_sendsAnswer_31 (w7k_15 hW) (w7z_15 hW) hv2 (fun σ3 hσ3 => ?_)
  replace hw := hw σ3 hσ3
  refine x_aload_n dX7_sendsAnswer_32 rfl 1 rfl ?_
  have hW := (xw7_a hσ3 hW)
  refine x_get (ci := 7) (k := 40) (v := .ref (a0 + 36)) dX7_sendsAnswer_33 wF_X7_116 (Nat.le_of_ble_eq_true rfl) (Nat.le_of_ble_eq_true rfl) hW.1 (congrArg va_rf (w7r_36 hW)) ?_
  refine x_iconst dX7_sendsAnswer_36 cI_4 ?_
  refine x_iload_n dX7_sendsAnswer_37 rfl 2 rfl ?_
  refine x_imul dX7_sendsAnswer_38 ?_
  refine x_iload dX7_sendsAnswer_39 0 rfl ?_
  refine x_iadd dX7_sendsAnswer_41 ?_
  obtain ⟨hv4, hw⟩ := hw
  refine x_zaldZ dX7_sendsAnswer_42 (w7k_36 hW) (w7z_36 hW) hv4 ?_
  refine x_if_eq 58 dX7_sendsAnswer_43 rfl (fun hc5 => ?_) (fun hc5 => ?_)
  · replace hw := hw.1 hc5
    refine x_aload_n dX7_sendsAnswer_58 rfl 1 rfl ?_
    refine x_iconst dX7_sendsAnswer_59 cI_1 ?_
    refine x_iload_n dX7_sendsAnswer_60 rfl 2 rfl ?_
    refine x_iload dX7_sendsAnswer_61 0 rfl ?_
    refine x_iload_n dX7_sendsAnswer_63 rfl 3 rfl ?_
    refine x_bipush dX7_sendsAnswer_64 cB_m9 ?_
    refine x_bipush dX7_sendsAnswer_66 cB_m9 ?_
    refine x_iload_n dX7_sendsAnswer_68 rfl 4 rfl ?_
    refine x_iload dX7_sendsAnswer_69 5 rfl ?_
    refine x_iload dX7_sendsAnswer_71 6 rfl ?_
    refine x_callV (M2 := M_X7_posts) (As := [.int 1, .int l1, .int s0, .int l2, .int (-9), .int (-9), .int l3, .int l4, .int l5]) (st := []) (ci := 7) (Nat.le_of_ble_eq_true rfl) hW.1 rfl wM_X7_150 wI_X7_posts wS_X7_posts dX7_sendsAnswer_73 rfl ok_X7_posts ⟨(Nat.le_of_ble_eq_true rfl), (Nat.le_of_ble_eq_true rfl)⟩ (Nat.le_of_ble_eq_true rfl) (ct_X7_posts hW hw) (xqV.k (fun σ6 hw2 => ?_))
    obtain ⟨hW, hw⟩ := hw2
    exact x_sub [1] rfl (xb_X7_sendsAnswer_76 hW hw)
  · replace hw := hw.2 hc5
    refine x_aload_n dX7_sendsAnswer_46 rfl 1 rfl ?_
    refine x_iload_n dX7_sendsAnswer_47 rfl 3 rfl ?_
    refine x_iconst dX7_sendsAnswer_48 cI_3 ?_
    refine x_iconst dX7_sendsAnswer_49 cI_1 ?_
    refine x_iload dX7_sendsAnswer_50 6 rfl ?_
    refine x_callV (M2 := M_X7_comesBack) (As := [.int l2, .int 3, .int 1, .int l5]) (st := []) (ci := 7) (Nat.le_of_ble_eq_true rfl) hW.1 rfl wM_X7_177 wI_X7_comesBack wS_X7_comesBack dX7_sendsAnswer_52 rfl ok_X7_comesBack ⟨(Nat.le_of_ble_eq_true rfl), (Nat.le_of_ble_eq_true rfl)⟩ (Nat.le_of_ble_eq_true rfl) (ct_X7_comesBack hW hw) (xqV.k (fun σ7 hw2 => ?_))
    obtain ⟨hW, hw⟩ := hw2
    refine x_goto 76 dX7_sendsAnswer_55 rfl ?_
    exact x_sub [1] rfl (xb_X7_sendsAnswer_76 hW hw)
def wp_X7_sendsAnswer (σ : xS) (a0 : Nat) (l1 : Int32) (l2 : Int32) (l3 : Int32) (l4 : Int32) (l5 : Int32) (Q : xS → Prop) : Prop := (l5 = 0 → vp_in l2 100 ∧ (wb_X7_sendsAnswer_20 Q σ a0 l1 l2 l3 l4 l5 (xh_a σ (a0 + 10) l2.toNatClampNeg))) ∧ (¬ l5 = 0 → vp_in l2 100 ∧ (wb_X7_sendsAnswer_20 Q σ a0 l1 l2 l3 l4 l5 (xh_a σ (a0 + 9) l2.toNatClampNeg)))
set_option maxRecDepth 100000 in
set_option maxHeartbeats 4000000 in
theorem ct_X7_sendsAnswer {σ : xS} {a0 : Nat}  {l1 : Int32} {l2 : Int32} {l3 : Int32} {l4 : Int32} {l5 : Int32} {Q : xS → Prop} (hW : xw7 σ a0) (hw : wp_X7_sendsAnswer σ a0 l1 l2 l3 l4 l5 Q) : xCt M_X7_sendsAnswer [.ref a0, .int l1, .int l2, .int l3, .int l4, .int l5] σ (xqV (fun σ2 => xw7 σ2 a0 ∧ Q σ2)) := by
  refine xCt_ofL (lv := [(0, .ref a0), (1, .int l1), (2, .int l2), (3, .int l3), (4, .int l4), (5, .int l5)]) pn_X7 (Nat.le_of_ble_eq_true rfl) rfl ?_
  unfold wp_X7_sendsAnswer at hw
  refine x_iload dX7_sendsAnswer_0 5 rfl ?_
  refine x_if_eq 14 dX7_sendsAnswer_2 rfl (fun hc8 => ?_) (fun hc8 => ?_)
  · replace hw := hw.1 hc8
    refine x_aload_n dX7_sendsAnswer_14 rfl 0 rfl ?_
    refine x_get (ci := 7) (k := 11) (v := .ref (a0 + 10)) dX7_sendsAnswer_15 wF_X7_38 (Nat.le_of_ble_eq_true rfl) (Nat.le_of_ble_eq_true rfl) hW.1 (congrArg va_rf (w7r_10 hW)) ?_
    refine x_iload_n dX7_sendsAnswer_18 rfl 2 rfl ?_
    obtain ⟨hv9, hw⟩ := hw
    refine x_ialdZ dX7_sendsAnswer_19 (w7k_10 hW) (w7z_10 hW) hv9 ?_
    exact x_sub [0, 1, 2, 3, 4, 5] rfl (xb_X7_sendsAnswer_20 hW hw)
  · replace hw := hw.2 hc8
    refine x_aload_n dX7_sendsAnswer_5 rfl 0 rfl ?_
    refine x_get (ci := 7) (k := 10) (v := .ref (a0 + 9)) dX7_sendsAnswer_6 wF_X7_35 (Nat.le_of_ble_eq_true rfl) (Nat.le_of_ble_eq_true rfl) hW.1 (congrArg va_rf (w7r_9 hW)) ?_
    refine x_iload_n dX7_sendsAnswer_9 rfl 2 rfl ?_
    obtain ⟨hv10, hw⟩ := hw
    refine x_ialdZ dX7_sendsAnswer_10 (w7k_9 hW) (w7z_9 hW) hv10 ?_
    refine x_goto 20 dX7_sendsAnswer_11 rfl ?_
    exact x_sub [0, 1, 2, 3, 4, 5] rfl (xb_X7_sendsAnswer_20 hW hw)
-- PromiseWireModel.settles(IIII)V
def wb_X7_settles_38 (Q : xS → Prop) (σ : xS) (a0 : Nat) : Prop := Q σ
set_option maxRecDepth 100000 in
set_option maxHeartbeats 4000000 in
theorem xb_X7_settles_38 {Q : xS → Prop} {σ : xS} {a0 : Nat}  (hW : xw7 σ a0)  (hw : wb_X7_settles_38 Q σ a0) : xX M_X7_settles 38 [(0, .ref a0)] [] σ (xqV (fun σ2 => xw7 σ2 a0 ∧ Q σ2)) := by
  unfold wb_X7_settles_38 at hw
  exact x_vret dX7_settles_38 rfl ⟨rfl, hW, hw⟩
def wp_X7_settles (σ : xS) (a0 : Nat) (l1 : Int32) (l2 : Int32) (l3 : Int32) (l4 : Int32) (Q : xS → Prop) : Prop := vp_in l1 100 ∧ ∀ σ2, σ2 = xs_a σ (a0 + 16) l1.toNatClampNeg 0 → (vp_in l1 100 ∧ ((l2 = (xh_a σ2 (a0 + 10) l1.toNatClampNeg) → wp_X7_isToBeDone σ2 a0 l1 l3 l4 (fun σ6 => wb_X7_settles_38 Q σ6 a0)) ∧ (¬ l2 = (xh_a σ2 (a0 + 10) l1.toNatClampNeg) → wp_X7_sendsAnswer σ2 a0 l2 l1 l3 l4 0 (fun σ5 => wb_X7_settles_38 Q σ5 a0))))
set_option maxRecDepth 100000 in
set_option maxHeartbeats 4000000 in
theorem ct_X7_settles {σ : xS} {a0 : Nat}  {l1 : Int32} {l2 : Int32} {l3 : Int32} {l4 : Int32} {Q : xS → Prop} (hW : xw7 σ a0) (hw : wp_X7_settles σ a0 l1 l2 l3 l4 Q) : xCt M_X7_settles [.ref a0, .int l1, .int l2, .int l3, .int l4] σ (xqV (fun σ2 => xw7 σ2 a0 ∧ Q σ2)) := by
  refine xCt_ofL (lv := [(0, .ref a0), (1, .int l1), (2, .int l2), (3, .int l3), (4, .int l4)]) pn_X7 (Nat.le_of_ble_eq_true rfl) rfl ?_
  unfold wp_X7_settles at hw
  refine x_aload_n dX7_settles_0 rfl 0 rfl ?_
  refine x_get (ci := 7) (k := 17) (v := .ref (a0 + 16)) dX7_settles_1 wF_X7_56 (Nat.le_of_ble_eq_true rfl) (Nat.le_of_ble_eq_true rfl) hW.1 (congrArg va_rf (w7r_16 hW)) ?_
  refine x_iload_n dX7_settles_4 rfl 1 rfl ?_
  refine x_iconst dX7_settles_5 cI_0 ?_
  obtain ⟨hv1, hw⟩ := hw
  refine x_iastN dX7_settles_6 (w7k_16 hW) (w7z_16 hW) hv1 (fun σ2 hσ2 => ?_)
  replace hw := hw σ2 hσ2
  refine x_iload_n dX7_settles_7 rfl 2 rfl ?_
  refine x_aload_n dX7_settles_8 rfl 0 rfl ?_
  have hW := (xw7_a hσ2 hW)
  refine x_get (ci := 7) (k := 11) (v := .ref (a0 + 10)) dX7_settles_9 wF_X7_38 (Nat.le_of_ble_eq_true rfl) (Nat.le_of_ble_eq_true rfl) hW.1 (congrArg va_rf (w7r_10 hW)) ?_
  refine x_iload_n dX7_settles_12 rfl 1 rfl ?_
  obtain ⟨hv3, hw⟩ := hw
  refine x_ialdZ dX7_settles_13 (w7k_10 hW) (w7z_10 hW) hv3 ?_
  refine x_icmp_ne 28 dX7_settles_14 rfl (fun hc4 => ?_) (fun hc4 => ?_)
  · replace hw := hw.2 hc4
    refine x_aload_n dX7_settles_28 rfl 0 rfl ?_
    refine x_iload_n dX7_settles_29 rfl 2 rfl ?_
    refine x_iload_n dX7_settles_30 rfl 1 rfl ?_
    refine x_iload_n dX7_settles_31 rfl 3 rfl ?_
    refine x_iload dX7_settles_32 4 rfl ?_
    refine x_iconst dX7_settles_34 cI_0 ?_
    refine x_callV (M2 := M_X7_sendsAnswer) (As := [.int l2, .int l1, .int l3, .int l4, .int 0]) (st := []) (ci := 7) (Nat.le_of_ble_eq_true rfl) hW.1 rfl wM_X7_181 wI_X7_sendsAnswer wS_X7_sendsAnswer dX7_settles_35 rfl ok_X7_sendsAnswer ⟨(Nat.le_of_ble_eq_true rfl), (Nat.le_of_ble_eq_true rfl)⟩ (Nat.le_of_ble_eq_true rfl) (ct_X7_sendsAnswer hW hw) (xqV.k (fun σ5 hw2 => ?_))
    obtain ⟨hW, hw⟩ := hw2
    exact x_sub [0] rfl (xb_X7_settles_38 hW hw)
  · replace hw := hw.1 hc4
    refine x_aload_n dX7_settles_17 rfl 0 rfl ?_
    refine x_iload_n dX7_settles_18 rfl 1 rfl ?_
    refine x_iload_n dX7_settles_19 rfl 3 rfl ?_
    refine x_iload dX7_settles_20 4 rfl ?_
    refine x_callV (M2 := M_X7_isToBeDone) (As := [.int l1, .int l3, .int l4]) (st := []) (ci := 7) (Nat.le_of_ble_eq_true rfl) hW.1 rfl wM_X7_174 wI_X7_isToBeDone wS_X7_isToBeDone dX7_settles_22 rfl ok_X7_isToBeDone ⟨(Nat.le_of_ble_eq_true rfl), (Nat.le_of_ble_eq_true rfl)⟩ (Nat.le_of_ble_eq_true rfl) (ct_X7_isToBeDone hW hw) (xqV.k (fun σ6 hw2 => ?_))
    obtain ⟨hW, hw⟩ := hw2
    refine x_goto 38 dX7_settles_25 rfl ?_
    exact x_sub [0] rfl (xb_X7_settles_38 hW hw)
