/-- what the pure part owes: a relation between the two states that every call keeps, with the same answer on both sides -/
def yOps (x m : Nat) (INV : Nat → xS → xS → Prop) : Prop := (∀ (κ : Nat) (σ τ : xS), INV κ σ τ → xw6 σ x ∧ xw7 τ m) ∧ (∀ (κ : Nat) (σ τ : xS) (n : Nat), INV κ σ τ → INV (κ + 1) σ (yN τ n)) ∧ (∀ (κ : Nat) (σ τ : xS) (l1 l2 l3 : Int32), κ < 512 → INV κ σ τ → wp_X6_thing σ x l1 l2 l3 (fun r σ2 => wp_X7_thing (yN τ (xh_n σ2)) m l1 l2 l3 (fun r2 τ2 => r = r2 ∧ INV (κ + 1) (yN σ2 (xh_n τ2)) τ2))) ∧ (∀ (κ : Nat) (σ τ : xS) (l1 l2 l3 l4 : Int32), (l4 = 0 ∨ l4 = 1) → κ < 512 → INV κ σ τ → wp_X6_guard σ x l1 l2 l3 l4 (fun r σ2 => wp_X7_guard (yN τ (xh_n σ2)) m l1 l2 l3 l4 (fun r2 τ2 => r = r2 ∧ INV (κ + 1) (yN σ2 (xh_n τ2)) τ2))) ∧ (∀ (κ : Nat) (σ τ : xS) (l1 l2 : Int32), (l2 = 0 ∨ l2 = 1) → κ < 512 → INV κ σ τ → wp_X6_shut σ x l1 l2 (fun r σ2 => wp_X7_shut (yN τ (xh_n σ2)) m l1 l2 (fun r2 τ2 => r = r2 ∧ INV (κ + 1) (yN σ2 (xh_n τ2)) τ2))) ∧ (∀ (κ : Nat) (σ τ : xS) (l1 : Int32), κ < 512 → INV κ σ τ → wp_X6_back σ x l1 (fun r σ2 => wp_X7_back (yN τ (xh_n σ2)) m l1 (fun r2 τ2 => r = r2 ∧ INV (κ + 1) (yN σ2 (xh_n τ2)) τ2))) ∧ (∀ (κ : Nat) (σ τ : xS) (l1 l2 : Int32), κ < 512 → INV κ σ τ → wp_X6_wake σ x l1 l2 (fun r σ2 => wp_X7_wake (yN τ (xh_n σ2)) m l1 l2 (fun r2 τ2 => r = r2 ∧ INV (κ + 1) (yN σ2 (xh_n τ2)) τ2))) ∧ (∀ (κ : Nat) (σ τ : xS) (l1 l2 : Int32), κ < 512 → INV κ σ τ → wp_X6_about σ x l1 l2 (fun r => wp_X7_about (yN τ (xh_n σ)) m l1 l2 (fun r2 => r = r2))) ∧ (∀ (κ : Nat) (σ τ : xS) (l1 l2 l3 l4 l5 l6 : Int32), κ < 512 → INV κ σ τ → wp_X6_ask σ x l1 l2 l3 l4 l5 l6 (fun r σ2 => wp_X7_ask (yN τ (xh_n σ2)) m l1 l2 l3 l4 l5 l6 (fun r2 τ2 => r = r2 ∧ INV (κ + 1) (yN σ2 (xh_n τ2)) τ2))) ∧ (∀ (κ : Nat) (σ τ : xS) (l1 l2 l3 : Int32), κ < 512 → INV κ σ τ → wp_X6_when σ x l1 l2 l3 (fun r σ2 => wp_X7_when (yN τ (xh_n σ2)) m l1 l2 l3 (fun r2 τ2 => r = r2 ∧ INV (κ + 1) (yN σ2 (xh_n τ2)) τ2))) ∧ (∀ (κ : Nat) (σ τ : xS) (l1 l2 l3 : Int32), κ < 512 → INV κ σ τ → wp_X6_state σ x l1 l2 l3 (fun r => wp_X7_state (yN τ (xh_n σ)) m l1 l2 l3 (fun r2 => r = r2))) ∧ (∀ (κ : Nat) (σ τ : xS) (l1 l2 : Int32), κ < 512 → INV κ σ τ → wp_X6_promise σ x l1 l2 (fun r => wp_X7_promise (yN τ (xh_n σ)) m l1 l2 (fun r2 => r = r2))) ∧ (∀ (κ : Nat) (σ τ : xS) (l1 l2 : Int32), κ < 512 → INV κ σ τ → wp_X6_deliver σ x l1 l2 (fun r σ2 => wp_X7_deliver (yN τ (xh_n σ2)) m l1 l2 (fun r2 τ2 => r = r2 ∧ INV (κ + 1) (yN σ2 (xh_n τ2)) τ2))) ∧ (∀ (κ : Nat) (σ τ : xS) (l1 : Int32), κ < 512 → INV κ σ τ → wp_X6_flow σ x l1 (fun r σ2 => wp_X7_flow (yN τ (xh_n σ2)) m l1 (fun r2 τ2 => r = r2 ∧ INV (κ + 1) (yN σ2 (xh_n τ2)) τ2))) ∧ (∀ (κ : Nat) (σ τ : xS) (l1 l2 : Int32), κ < 512 → INV κ σ τ → wp_X6_cut σ x l1 l2 (fun r σ2 => wp_X7_cut (yN τ (xh_n σ2)) m l1 l2 (fun r2 τ2 => r = r2 ∧ INV (κ + 1) (yN σ2 (xh_n τ2)) τ2))) ∧ (∀ (κ : Nat) (σ τ : xS) (l1 l2 : Int32), κ < 512 → INV κ σ τ → wp_X6_again σ x l1 l2 (fun r σ2 => wp_X7_again (yN τ (xh_n σ2)) m l1 l2 (fun r2 τ2 => r = r2 ∧ INV (κ + 1) (yN σ2 (xh_n τ2)) τ2))) ∧ (∀ (κ : Nat) (σ τ : xS) (l1 l2 : Int32), κ < 512 → INV κ σ τ → wp_X6_wire σ x l1 l2 (fun r => wp_X7_wire (yN τ (xh_n σ)) m l1 l2 (fun r2 => r = r2))) ∧ (∀ (κ : Nat) (σ τ : xS) (l1 l2 l3 l4 : Int32), κ < 512 → INV κ σ τ → wp_X6_letter σ x l1 l2 l3 l4 (fun r => wp_X7_letter (yN τ (xh_n σ)) m l1 l2 l3 l4 (fun r2 => r = r2))) ∧ (∀ (κ : Nat) (σ τ : xS), κ < 512 → INV κ σ τ → wp_X6_purses σ x (fun r => wp_X7_purses (yN τ (xh_n σ)) m (fun r2 => r = r2))) ∧ (∀ (κ : Nat) (σ τ : xS) (l1 : Int32), κ < 512 → INV κ σ τ → wp_X6_count σ x l1 (fun r => wp_X7_count (yN τ (xh_n σ)) m l1 (fun r2 => r = r2))) ∧ (∀ (κ : Nat) (σ τ : xS), κ < 512 → INV κ σ τ → wp_X6_trace σ x (fun r => wp_X7_trace (yN τ (xh_n σ)) m (fun r2 => r = r2)))
theorem lg_cmp_self (x : Int64) : lg_cmp x x = 0 := by simp [lg_cmp]
set_option maxRecDepth 100000 in
set_option maxHeartbeats 4000000 in
theorem law_c0 {b L : Nat} {xs : Nat → Int32} {x m i κ : Nat} {INV : Nat → xS → xS → Prop} {σ τ : xS} (hO : yOps x m INV) (hκ : κ < 512) (hI : INV κ σ τ) (hin : ∀ k : Nat, k < 7 → vp_in (nI i + nI k) L) (hend : ∀ σ τ, INV (κ + 1) σ τ → yY b L xs 827 [(0, .ref b), (1, .ref x), (2, .ref m), (3, .int (nI i))] [] σ τ) : yY b L xs 124 [(0, .ref b), (1, .ref x), (2, .ref m), (3, .int (nI i))] [] σ τ := by
  have hW6 := (hO.1 κ σ τ hI).1
  have hW7 := (hO.1 κ σ τ hI).2
  refine y_aload_n dL_law_124 rfl 1 rfl ?_
  refine y_aload_n dL_law_125 rfl 0 rfl ?_
  refine y_iload_n dL_law_126 rfl 3 rfl ?_
  refine y_iconst dL_law_127 cI_1 ?_
  refine y_iadd dL_law_128 ?_
  refine y_sld (hin 1 (by decide)) dL_law_129 ?_
  refine y_aload_n dL_law_130 rfl 0 rfl ?_
  refine y_iload_n dL_law_131 rfl 3 rfl ?_
  refine y_iconst dL_law_132 cI_2 ?_
  refine y_iadd dL_law_133 ?_
  refine y_sld (hin 2 (by decide)) dL_law_134 ?_
  refine y_aload_n dL_law_135 rfl 0 rfl ?_
  refine y_iload_n dL_law_136 rfl 3 rfl ?_
  refine y_iconst dL_law_137 cI_3 ?_
  refine y_iadd dL_law_138 ?_
  refine y_sld (hin 3 (by decide)) dL_law_139 ?_
  have hw := hO.2.2.1 κ σ τ (xs ((nI i) + 1).toNatClampNeg) (xs ((nI i) + 2).toNatClampNeg) (xs ((nI i) + 3).toNatClampNeg) hκ hI
  refine y_callVC (M2 := M_X6_thing) (As := [.int (xs ((nI i) + 1).toNatClampNeg), .int (xs ((nI i) + 2).toNatClampNeg), .int (xs ((nI i) + 3).toNatClampNeg)]) (st := []) (ci := 6) (Nat.le_of_ble_eq_true rfl) rfl hW6.1 wS_X6_thing (List.mem_filter.mp wM_L_13).1 wI_X6_thing dL_law_140 rfl ok_X6_thing ⟨(Nat.le_of_ble_eq_true rfl), (Nat.le_of_ble_eq_true rfl)⟩ (Nat.le_of_ble_eq_true rfl) (ct_X6_thing hW6 hw) (xqI.y (f := fun σ2 => σ2) (g := fun _ => τ) (fun r1 σ2 h1 => ?_))
  obtain ⟨-, hw⟩ := h1
  refine y_aload_n dL_law_143 rfl 2 rfl ?_
  refine y_aload_n dL_law_144 rfl 0 rfl ?_
  refine y_iload_n dL_law_145 rfl 3 rfl ?_
  refine y_iconst dL_law_146 cI_1 ?_
  refine y_iadd dL_law_147 ?_
  refine y_sld (hin 1 (by decide)) dL_law_148 ?_
  refine y_aload_n dL_law_149 rfl 0 rfl ?_
  refine y_iload_n dL_law_150 rfl 3 rfl ?_
  refine y_iconst dL_law_151 cI_2 ?_
  refine y_iadd dL_law_152 ?_
  refine y_sld (hin 2 (by decide)) dL_law_153 ?_
  refine y_aload_n dL_law_154 rfl 0 rfl ?_
  refine y_iload_n dL_law_155 rfl 3 rfl ?_
  refine y_iconst dL_law_156 cI_3 ?_
  refine y_iadd dL_law_157 ?_
  refine y_sld (hin 3 (by decide)) dL_law_158 ?_
  refine y_callVM (M2 := M_X7_thing) (As := [.int (xs ((nI i) + 1).toNatClampNeg), .int (xs ((nI i) + 2).toNatClampNeg), .int (xs ((nI i) + 3).toNatClampNeg)]) (st := [.int r1]) (ci := 7) (Nat.le_of_ble_eq_true rfl) rfl hW7.1 wS_X7_thing (List.mem_filter.mp wM_L_17).1 wI_X7_thing dL_law_159 rfl ok_X7_thing ⟨(Nat.le_of_ble_eq_true rfl), (Nat.le_of_ble_eq_true rfl)⟩ (Nat.le_of_ble_eq_true rfl) (ct_X7_thing (σ := yN τ (xh_n σ2)) hW7 hw) (xqI.y (f := fun τ2 => yN σ2 (xh_n τ2)) (g := fun τ2 => τ2) (fun r2 τ2 h2 => ?_))
  obtain ⟨-, hr, hI⟩ := h2
  refine y_icmp_eq 827 dL_law_162 rfl (fun hc => ?_) (fun hc => absurd hr hc)
  exact hend _ _ hI
set_option maxRecDepth 100000 in
set_option maxHeartbeats 4000000 in
theorem law_c1 {b L : Nat} {xs : Nat → Int32} {x m i κ : Nat} {INV : Nat → xS → xS → Prop} {σ τ : xS} (hO : yOps x m INV) (hκ : κ < 512) (hI : INV κ σ τ) (hin : ∀ k : Nat, k < 7 → vp_in (nI i + nI k) L) (hend : ∀ σ τ, INV (κ + 1) σ τ → yY b L xs 827 [(0, .ref b), (1, .ref x), (2, .ref m), (3, .int (nI i))] [] σ τ) : yY b L xs 167 [(0, .ref b), (1, .ref x), (2, .ref m), (3, .int (nI i))] [] σ τ := by
  have hW6 := (hO.1 κ σ τ hI).1
  have hW7 := (hO.1 κ σ τ hI).2
  refine y_aload_n dL_law_167 rfl 1 rfl ?_
  refine y_aload_n dL_law_168 rfl 0 rfl ?_
  refine y_iload_n dL_law_169 rfl 3 rfl ?_
  refine y_iconst dL_law_170 cI_1 ?_
  refine y_iadd dL_law_171 ?_
  refine y_sld (hin 1 (by decide)) dL_law_172 ?_
  refine y_aload_n dL_law_173 rfl 0 rfl ?_
  refine y_iload_n dL_law_174 rfl 3 rfl ?_
  refine y_iconst dL_law_175 cI_2 ?_
  refine y_iadd dL_law_176 ?_
  refine y_sld (hin 2 (by decide)) dL_law_177 ?_
  refine y_aload_n dL_law_178 rfl 0 rfl ?_
  refine y_iload_n dL_law_179 rfl 3 rfl ?_
  refine y_iconst dL_law_180 cI_3 ?_
  refine y_iadd dL_law_181 ?_
  refine y_sld (hin 3 (by decide)) dL_law_182 ?_
  refine y_aload_n dL_law_183 rfl 0 rfl ?_
  refine y_iload_n dL_law_184 rfl 3 rfl ?_
  refine y_iconst dL_law_185 cI_4 ?_
  refine y_iadd dL_law_186 ?_
  refine y_sld (hin 4 (by decide)) dL_law_187 ?_
  refine y_if_eq 195 dL_law_188 rfl (fun hz => ?_) (fun hz => ?_)
  · skip
    refine y_iconst dL_law_195 cI_0 ?_
    have hw := hO.2.2.2.1 κ σ τ (xs ((nI i) + 1).toNatClampNeg) (xs ((nI i) + 2).toNatClampNeg) (xs ((nI i) + 3).toNatClampNeg) 0 (Or.inl rfl) hκ hI
    refine y_callVC (M2 := M_X6_guard) (As := [.int (xs ((nI i) + 1).toNatClampNeg), .int (xs ((nI i) + 2).toNatClampNeg), .int (xs ((nI i) + 3).toNatClampNeg), .int 0]) (st := []) (ci := 6) (Nat.le_of_ble_eq_true rfl) rfl hW6.1 wS_X6_guard (List.mem_filter.mp wM_L_18).1 wI_X6_guard dL_law_196 rfl ok_X6_guard ⟨(Nat.le_of_ble_eq_true rfl), (Nat.le_of_ble_eq_true rfl)⟩ (Nat.le_of_ble_eq_true rfl) (ct_X6_guard hW6 hw) (xqI.y (f := fun σ2 => σ2) (g := fun _ => τ) (fun r1 σ2 h1 => ?_))
    obtain ⟨-, hw⟩ := h1
    refine y_aload_n dL_law_199 rfl 2 rfl ?_
    refine y_aload_n dL_law_200 rfl 0 rfl ?_
    refine y_iload_n dL_law_201 rfl 3 rfl ?_
    refine y_iconst dL_law_202 cI_1 ?_
    refine y_iadd dL_law_203 ?_
    refine y_sld (hin 1 (by decide)) dL_law_204 ?_
    refine y_aload_n dL_law_205 rfl 0 rfl ?_
    refine y_iload_n dL_law_206 rfl 3 rfl ?_
    refine y_iconst dL_law_207 cI_2 ?_
    refine y_iadd dL_law_208 ?_
    refine y_sld (hin 2 (by decide)) dL_law_209 ?_
    refine y_aload_n dL_law_210 rfl 0 rfl ?_
    refine y_iload_n dL_law_211 rfl 3 rfl ?_
    refine y_iconst dL_law_212 cI_3 ?_
    refine y_iadd dL_law_213 ?_
    refine y_sld (hin 3 (by decide)) dL_law_214 ?_
    refine y_aload_n dL_law_215 rfl 0 rfl ?_
    refine y_iload_n dL_law_216 rfl 3 rfl ?_
    refine y_iconst dL_law_217 cI_4 ?_
    refine y_iadd dL_law_218 ?_
    refine y_sld (hin 4 (by decide)) dL_law_219 ?_
    refine y_if_eq 227 dL_law_220 rfl (fun hc => ?_) (fun hc => ?_)
    · skip
      refine y_iconst dL_law_227 cI_0 ?_
      refine y_callVM (M2 := M_X7_guard) (As := [.int (xs ((nI i) + 1).toNatClampNeg), .int (xs ((nI i) + 2).toNatClampNeg), .int (xs ((nI i) + 3).toNatClampNeg), .int 0]) (st := [.int r1]) (ci := 7) (Nat.le_of_ble_eq_true rfl) rfl hW7.1 wS_X7_guard (List.mem_filter.mp wM_L_22).1 wI_X7_guard dL_law_228 rfl ok_X7_guard ⟨(Nat.le_of_ble_eq_true rfl), (Nat.le_of_ble_eq_true rfl)⟩ (Nat.le_of_ble_eq_true rfl) (ct_X7_guard (σ := yN τ (xh_n σ2)) hW7 hw) (xqI.y (f := fun τ2 => yN σ2 (xh_n τ2)) (g := fun τ2 => τ2) (fun r2 τ2 h2 => ?_))
      obtain ⟨-, hr, hI⟩ := h2
      refine y_icmp_eq 827 dL_law_231 rfl (fun hc => ?_) (fun hc => absurd hr hc)
      exact hend _ _ hI
    · exact absurd hz hc
  · skip
    refine y_iconst dL_law_191 cI_1 ?_
    refine y_goto 196 dL_law_192 rfl ?_
    have hw := hO.2.2.2.1 κ σ τ (xs ((nI i) + 1).toNatClampNeg) (xs ((nI i) + 2).toNatClampNeg) (xs ((nI i) + 3).toNatClampNeg) 1 (Or.inr rfl) hκ hI
    refine y_callVC (M2 := M_X6_guard) (As := [.int (xs ((nI i) + 1).toNatClampNeg), .int (xs ((nI i) + 2).toNatClampNeg), .int (xs ((nI i) + 3).toNatClampNeg), .int 1]) (st := []) (ci := 6) (Nat.le_of_ble_eq_true rfl) rfl hW6.1 wS_X6_guard (List.mem_filter.mp wM_L_18).1 wI_X6_guard dL_law_196 rfl ok_X6_guard ⟨(Nat.le_of_ble_eq_true rfl), (Nat.le_of_ble_eq_true rfl)⟩ (Nat.le_of_ble_eq_true rfl) (ct_X6_guard hW6 hw) (xqI.y (f := fun σ2 => σ2) (g := fun _ => τ) (fun r1 σ2 h1 => ?_))
    obtain ⟨-, hw⟩ := h1
    refine y_aload_n dL_law_199 rfl 2 rfl ?_
    refine y_aload_n dL_law_200 rfl 0 rfl ?_
    refine y_iload_n dL_law_201 rfl 3 rfl ?_
    refine y_iconst dL_law_202 cI_1 ?_
    refine y_iadd dL_law_203 ?_
    refine y_sld (hin 1 (by decide)) dL_law_204 ?_
    refine y_aload_n dL_law_205 rfl 0 rfl ?_
    refine y_iload_n dL_law_206 rfl 3 rfl ?_
    refine y_iconst dL_law_207 cI_2 ?_
    refine y_iadd dL_law_208 ?_
    refine y_sld (hin 2 (by decide)) dL_law_209 ?_
    refine y_aload_n dL_law_210 rfl 0 rfl ?_
    refine y_iload_n dL_law_211 rfl 3 rfl ?_
    refine y_iconst dL_law_212 cI_3 ?_
    refine y_iadd dL_law_213 ?_
    refine y_sld (hin 3 (by decide)) dL_law_214 ?_
    refine y_aload_n dL_law_215 rfl 0 rfl ?_
    refine y_iload_n dL_law_216 rfl 3 rfl ?_
    refine y_iconst dL_law_217 cI_4 ?_
    refine y_iadd dL_law_218 ?_
    refine y_sld (hin 4 (by decide)) dL_law_219 ?_
    refine y_if_eq 227 dL_law_220 rfl (fun hc => ?_) (fun hc => ?_)
    · exact absurd hc hz
    · skip
      refine y_iconst dL_law_223 cI_1 ?_
      refine y_goto 228 dL_law_224 rfl ?_
      refine y_callVM (M2 := M_X7_guard) (As := [.int (xs ((nI i) + 1).toNatClampNeg), .int (xs ((nI i) + 2).toNatClampNeg), .int (xs ((nI i) + 3).toNatClampNeg), .int 1]) (st := [.int r1]) (ci := 7) (Nat.le_of_ble_eq_true rfl) rfl hW7.1 wS_X7_guard (List.mem_filter.mp wM_L_22).1 wI_X7_guard dL_law_228 rfl ok_X7_guard ⟨(Nat.le_of_ble_eq_true rfl), (Nat.le_of_ble_eq_true rfl)⟩ (Nat.le_of_ble_eq_true rfl) (ct_X7_guard (σ := yN τ (xh_n σ2)) hW7 hw) (xqI.y (f := fun τ2 => yN σ2 (xh_n τ2)) (g := fun τ2 => τ2) (fun r2 τ2 h2 => ?_))
      obtain ⟨-, hr, hI⟩ := h2
      refine y_icmp_eq 827 dL_law_231 rfl (fun hc => ?_) (fun hc => absurd hr hc)
      exact hend _ _ hI
set_option maxRecDepth 100000 in
set_option maxHeartbeats 4000000 in
theorem law_c2 {b L : Nat} {xs : Nat → Int32} {x m i κ : Nat} {INV : Nat → xS → xS → Prop} {σ τ : xS} (hO : yOps x m INV) (hκ : κ < 512) (hI : INV κ σ τ) (hin : ∀ k : Nat, k < 7 → vp_in (nI i + nI k) L) (hend : ∀ σ τ, INV (κ + 1) σ τ → yY b L xs 827 [(0, .ref b), (1, .ref x), (2, .ref m), (3, .int (nI i))] [] σ τ) : yY b L xs 236 [(0, .ref b), (1, .ref x), (2, .ref m), (3, .int (nI i))] [] σ τ := by
  have hW6 := (hO.1 κ σ τ hI).1
  have hW7 := (hO.1 κ σ τ hI).2
  refine y_aload_n dL_law_236 rfl 1 rfl ?_
  refine y_aload_n dL_law_237 rfl 0 rfl ?_
  refine y_iload_n dL_law_238 rfl 3 rfl ?_
  refine y_iconst dL_law_239 cI_1 ?_
  refine y_iadd dL_law_240 ?_
  refine y_sld (hin 1 (by decide)) dL_law_241 ?_
  refine y_aload_n dL_law_242 rfl 0 rfl ?_
  refine y_iload_n dL_law_243 rfl 3 rfl ?_
  refine y_iconst dL_law_244 cI_2 ?_
  refine y_iadd dL_law_245 ?_
  refine y_sld (hin 2 (by decide)) dL_law_246 ?_
  refine y_if_eq 254 dL_law_247 rfl (fun hz => ?_) (fun hz => ?_)
  · skip
    refine y_iconst dL_law_254 cI_0 ?_
    have hw := hO.2.2.2.2.1 κ σ τ (xs ((nI i) + 1).toNatClampNeg) 0 (Or.inl rfl) hκ hI
    refine y_callVC (M2 := M_X6_shut) (As := [.int (xs ((nI i) + 1).toNatClampNeg), .int 0]) (st := []) (ci := 6) (Nat.le_of_ble_eq_true rfl) rfl hW6.1 wS_X6_shut (List.mem_filter.mp wM_L_23).1 wI_X6_shut dL_law_255 rfl ok_X6_shut ⟨(Nat.le_of_ble_eq_true rfl), (Nat.le_of_ble_eq_true rfl)⟩ (Nat.le_of_ble_eq_true rfl) (ct_X6_shut hW6 hw) (xqI.y (f := fun σ2 => σ2) (g := fun _ => τ) (fun r1 σ2 h1 => ?_))
    obtain ⟨-, hw⟩ := h1
    refine y_aload_n dL_law_258 rfl 2 rfl ?_
    refine y_aload_n dL_law_259 rfl 0 rfl ?_
    refine y_iload_n dL_law_260 rfl 3 rfl ?_
    refine y_iconst dL_law_261 cI_1 ?_
    refine y_iadd dL_law_262 ?_
    refine y_sld (hin 1 (by decide)) dL_law_263 ?_
    refine y_aload_n dL_law_264 rfl 0 rfl ?_
    refine y_iload_n dL_law_265 rfl 3 rfl ?_
    refine y_iconst dL_law_266 cI_2 ?_
    refine y_iadd dL_law_267 ?_
    refine y_sld (hin 2 (by decide)) dL_law_268 ?_
    refine y_if_eq 276 dL_law_269 rfl (fun hc => ?_) (fun hc => ?_)
    · skip
      refine y_iconst dL_law_276 cI_0 ?_
      refine y_callVM (M2 := M_X7_shut) (As := [.int (xs ((nI i) + 1).toNatClampNeg), .int 0]) (st := [.int r1]) (ci := 7) (Nat.le_of_ble_eq_true rfl) rfl hW7.1 wS_X7_shut (List.mem_filter.mp wM_L_27).1 wI_X7_shut dL_law_277 rfl ok_X7_shut ⟨(Nat.le_of_ble_eq_true rfl), (Nat.le_of_ble_eq_true rfl)⟩ (Nat.le_of_ble_eq_true rfl) (ct_X7_shut (σ := yN τ (xh_n σ2)) hW7 hw) (xqI.y (f := fun τ2 => yN σ2 (xh_n τ2)) (g := fun τ2 => τ2) (fun r2 τ2 h2 => ?_))
      obtain ⟨-, hr, hI⟩ := h2
      refine y_icmp_eq 827 dL_law_280 rfl (fun hc => ?_) (fun hc => absurd hr hc)
      exact hend _ _ hI
    · exact absurd hz hc
  · skip
    refine y_iconst dL_law_250 cI_1 ?_
    refine y_goto 255 dL_law_251 rfl ?_
    have hw := hO.2.2.2.2.1 κ σ τ (xs ((nI i) + 1).toNatClampNeg) 1 (Or.inr rfl) hκ hI
    refine y_callVC (M2 := M_X6_shut) (As := [.int (xs ((nI i) + 1).toNatClampNeg), .int 1]) (st := []) (ci := 6) (Nat.le_of_ble_eq_true rfl) rfl hW6.1 wS_X6_shut (List.mem_filter.mp wM_L_23).1 wI_X6_shut dL_law_255 rfl ok_X6_shut ⟨(Nat.le_of_ble_eq_true rfl), (Nat.le_of_ble_eq_true rfl)⟩ (Nat.le_of_ble_eq_true rfl) (ct_X6_shut hW6 hw) (xqI.y (f := fun σ2 => σ2) (g := fun _ => τ) (fun r1 σ2 h1 => ?_))
    obtain ⟨-, hw⟩ := h1
    refine y_aload_n dL_law_258 rfl 2 rfl ?_
    refine y_aload_n dL_law_259 rfl 0 rfl ?_
    refine y_iload_n dL_law_260 rfl 3 rfl ?_
    refine y_iconst dL_law_261 cI_1 ?_
    refine y_iadd dL_law_262 ?_
    refine y_sld (hin 1 (by decide)) dL_law_263 ?_
    refine y_aload_n dL_law_264 rfl 0 rfl ?_
    refine y_iload_n dL_law_265 rfl 3 rfl ?_
    refine y_iconst dL_law_266 cI_2 ?_
    refine y_iadd dL_law_267 ?_
    refine y_sld (hin 2 (by decide)) dL_law_268 ?_
    refine y_if_eq 276 dL_law_269 rfl (fun hc => ?_) (fun hc => ?_)
    · exact absurd hc hz
    · skip
      refine y_iconst dL_law_272 cI_1 ?_
      refine y_goto 277 dL_law_273 rfl ?_
      refine y_callVM (M2 := M_X7_shut) (As := [.int (xs ((nI i) + 1).toNatClampNeg), .int 1]) (st := [.int r1]) (ci := 7) (Nat.le_of_ble_eq_true rfl) rfl hW7.1 wS_X7_shut (List.mem_filter.mp wM_L_27).1 wI_X7_shut dL_law_277 rfl ok_X7_shut ⟨(Nat.le_of_ble_eq_true rfl), (Nat.le_of_ble_eq_true rfl)⟩ (Nat.le_of_ble_eq_true rfl) (ct_X7_shut (σ := yN τ (xh_n σ2)) hW7 hw) (xqI.y (f := fun τ2 => yN σ2 (xh_n τ2)) (g := fun τ2 => τ2) (fun r2 τ2 h2 => ?_))
      obtain ⟨-, hr, hI⟩ := h2
      refine y_icmp_eq 827 dL_law_280 rfl (fun hc => ?_) (fun hc => absurd hr hc)
      exact hend _ _ hI
set_option maxRecDepth 100000 in
set_option maxHeartbeats 4000000 in
theorem law_c3 {b L : Nat} {xs : Nat → Int32} {x m i κ : Nat} {INV : Nat → xS → xS → Prop} {σ τ : xS} (hO : yOps x m INV) (hκ : κ < 512) (hI : INV κ σ τ) (hin : ∀ k : Nat, k < 7 → vp_in (nI i + nI k) L) (hend : ∀ σ τ, INV (κ + 1) σ τ → yY b L xs 827 [(0, .ref b), (1, .ref x), (2, .ref m), (3, .int (nI i))] [] σ τ) : yY b L xs 285 [(0, .ref b), (1, .ref x), (2, .ref m), (3, .int (nI i))] [] σ τ := by
  have hW6 := (hO.1 κ σ τ hI).1
  have hW7 := (hO.1 κ σ τ hI).2
  refine y_aload_n dL_law_285 rfl 1 rfl ?_
  refine y_aload_n dL_law_286 rfl 0 rfl ?_
  refine y_iload_n dL_law_287 rfl 3 rfl ?_
  refine y_iconst dL_law_288 cI_1 ?_
  refine y_iadd dL_law_289 ?_
  refine y_sld (hin 1 (by decide)) dL_law_290 ?_
  have hw := hO.2.2.2.2.2.1 κ σ τ (xs ((nI i) + 1).toNatClampNeg) hκ hI
  refine y_callVC (M2 := M_X6_back) (As := [.int (xs ((nI i) + 1).toNatClampNeg)]) (st := []) (ci := 6) (Nat.le_of_ble_eq_true rfl) rfl hW6.1 wS_X6_back (List.mem_filter.mp wM_L_28).1 wI_X6_back dL_law_291 rfl ok_X6_back ⟨(Nat.le_of_ble_eq_true rfl), (Nat.le_of_ble_eq_true rfl)⟩ (Nat.le_of_ble_eq_true rfl) (ct_X6_back hW6 hw) (xqI.y (f := fun σ2 => σ2) (g := fun _ => τ) (fun r1 σ2 h1 => ?_))
  obtain ⟨-, hw⟩ := h1
  refine y_aload_n dL_law_294 rfl 2 rfl ?_
  refine y_aload_n dL_law_295 rfl 0 rfl ?_
  refine y_iload_n dL_law_296 rfl 3 rfl ?_
  refine y_iconst dL_law_297 cI_1 ?_
  refine y_iadd dL_law_298 ?_
  refine y_sld (hin 1 (by decide)) dL_law_299 ?_
  refine y_callVM (M2 := M_X7_back) (As := [.int (xs ((nI i) + 1).toNatClampNeg)]) (st := [.int r1]) (ci := 7) (Nat.le_of_ble_eq_true rfl) rfl hW7.1 wS_X7_back (List.mem_filter.mp wM_L_32).1 wI_X7_back dL_law_300 rfl ok_X7_back ⟨(Nat.le_of_ble_eq_true rfl), (Nat.le_of_ble_eq_true rfl)⟩ (Nat.le_of_ble_eq_true rfl) (ct_X7_back (σ := yN τ (xh_n σ2)) hW7 hw) (xqI.y (f := fun τ2 => yN σ2 (xh_n τ2)) (g := fun τ2 => τ2) (fun r2 τ2 h2 => ?_))
  obtain ⟨-, hr, hI⟩ := h2
  refine y_icmp_eq 827 dL_law_303 rfl (fun hc => ?_) (fun hc => absurd hr hc)
  exact hend _ _ hI
set_option maxRecDepth 100000 in
set_option maxHeartbeats 4000000 in
theorem law_c4 {b L : Nat} {xs : Nat → Int32} {x m i κ : Nat} {INV : Nat → xS → xS → Prop} {σ τ : xS} (hO : yOps x m INV) (hκ : κ < 512) (hI : INV κ σ τ) (hin : ∀ k : Nat, k < 7 → vp_in (nI i + nI k) L) (hend : ∀ σ τ, INV (κ + 1) σ τ → yY b L xs 827 [(0, .ref b), (1, .ref x), (2, .ref m), (3, .int (nI i))] [] σ τ) : yY b L xs 308 [(0, .ref b), (1, .ref x), (2, .ref m), (3, .int (nI i))] [] σ τ := by
  have hW6 := (hO.1 κ σ τ hI).1
  have hW7 := (hO.1 κ σ τ hI).2
  refine y_aload_n dL_law_308 rfl 1 rfl ?_
  refine y_aload_n dL_law_309 rfl 0 rfl ?_
  refine y_iload_n dL_law_310 rfl 3 rfl ?_
  refine y_iconst dL_law_311 cI_1 ?_
  refine y_iadd dL_law_312 ?_
  refine y_sld (hin 1 (by decide)) dL_law_313 ?_
  refine y_aload_n dL_law_314 rfl 0 rfl ?_
  refine y_iload_n dL_law_315 rfl 3 rfl ?_
  refine y_iconst dL_law_316 cI_2 ?_
  refine y_iadd dL_law_317 ?_
  refine y_sld (hin 2 (by decide)) dL_law_318 ?_
  have hw := hO.2.2.2.2.2.2.1 κ σ τ (xs ((nI i) + 1).toNatClampNeg) (xs ((nI i) + 2).toNatClampNeg) hκ hI
  refine y_callVC (M2 := M_X6_wake) (As := [.int (xs ((nI i) + 1).toNatClampNeg), .int (xs ((nI i) + 2).toNatClampNeg)]) (st := []) (ci := 6) (Nat.le_of_ble_eq_true rfl) rfl hW6.1 wS_X6_wake (List.mem_filter.mp wM_L_33).1 wI_X6_wake dL_law_319 rfl ok_X6_wake ⟨(Nat.le_of_ble_eq_true rfl), (Nat.le_of_ble_eq_true rfl)⟩ (Nat.le_of_ble_eq_true rfl) (ct_X6_wake hW6 hw) (xqI.y (f := fun σ2 => σ2) (g := fun _ => τ) (fun r1 σ2 h1 => ?_))
  obtain ⟨-, hw⟩ := h1
  refine y_aload_n dL_law_322 rfl 2 rfl ?_
  refine y_aload_n dL_law_323 rfl 0 rfl ?_
  refine y_iload_n dL_law_324 rfl 3 rfl ?_
  refine y_iconst dL_law_325 cI_1 ?_
  refine y_iadd dL_law_326 ?_
  refine y_sld (hin 1 (by decide)) dL_law_327 ?_
  refine y_aload_n dL_law_328 rfl 0 rfl ?_
  refine y_iload_n dL_law_329 rfl 3 rfl ?_
  refine y_iconst dL_law_330 cI_2 ?_
  refine y_iadd dL_law_331 ?_
  refine y_sld (hin 2 (by decide)) dL_law_332 ?_
  refine y_callVM (M2 := M_X7_wake) (As := [.int (xs ((nI i) + 1).toNatClampNeg), .int (xs ((nI i) + 2).toNatClampNeg)]) (st := [.int r1]) (ci := 7) (Nat.le_of_ble_eq_true rfl) rfl hW7.1 wS_X7_wake (List.mem_filter.mp wM_L_37).1 wI_X7_wake dL_law_333 rfl ok_X7_wake ⟨(Nat.le_of_ble_eq_true rfl), (Nat.le_of_ble_eq_true rfl)⟩ (Nat.le_of_ble_eq_true rfl) (ct_X7_wake (σ := yN τ (xh_n σ2)) hW7 hw) (xqI.y (f := fun τ2 => yN σ2 (xh_n τ2)) (g := fun τ2 => τ2) (fun r2 τ2 h2 => ?_))
  obtain ⟨-, hr, hI⟩ := h2
  refine y_icmp_eq 827 dL_law_336 rfl (fun hc => ?_) (fun hc => absurd hr hc)
  exact hend _ _ hI
set_option maxRecDepth 100000 in
set_option maxHeartbeats 4000000 in
theorem law_c5 {b L : Nat} {xs : Nat → Int32} {x m i κ : Nat} {INV : Nat → xS → xS → Prop} {σ τ : xS} (hO : yOps x m INV) (hκ : κ < 512) (hI : INV κ σ τ) (hin : ∀ k : Nat, k < 7 → vp_in (nI i + nI k) L) (hend : ∀ σ τ, INV (κ + 1) σ τ → yY b L xs 827 [(0, .ref b), (1, .ref x), (2, .ref m), (3, .int (nI i))] [] σ τ) : yY b L xs 341 [(0, .ref b), (1, .ref x), (2, .ref m), (3, .int (nI i))] [] σ τ := by
  have hW6 := (hO.1 κ σ τ hI).1
  have hW7 := (hO.1 κ σ τ hI).2
  refine y_aload_n dL_law_341 rfl 1 rfl ?_
  refine y_aload_n dL_law_342 rfl 0 rfl ?_
  refine y_iload_n dL_law_343 rfl 3 rfl ?_
  refine y_iconst dL_law_344 cI_1 ?_
  refine y_iadd dL_law_345 ?_
  refine y_sld (hin 1 (by decide)) dL_law_346 ?_
  refine y_aload_n dL_law_347 rfl 0 rfl ?_
  refine y_iload_n dL_law_348 rfl 3 rfl ?_
  refine y_iconst dL_law_349 cI_2 ?_
  refine y_iadd dL_law_350 ?_
  refine y_sld (hin 2 (by decide)) dL_law_351 ?_
  have hw := hO.2.2.2.2.2.2.2.1 κ σ τ (xs ((nI i) + 1).toNatClampNeg) (xs ((nI i) + 2).toNatClampNeg) hκ hI
  refine y_callVC (M2 := M_X6_about) (As := [.int (xs ((nI i) + 1).toNatClampNeg), .int (xs ((nI i) + 2).toNatClampNeg)]) (st := []) (ci := 6) (Nat.le_of_ble_eq_true rfl) rfl hW6.1 wS_X6_about (List.mem_filter.mp wM_L_38).1 wI_X6_about dL_law_352 rfl ok_X6_about ⟨(Nat.le_of_ble_eq_true rfl), (Nat.le_of_ble_eq_true rfl)⟩ (Nat.le_of_ble_eq_true rfl) (ct_X6_about hW6 hw) (xqI.y (f := fun σ2 => σ2) (g := fun _ => τ) (fun r1 σ2 h1 => ?_))
  obtain ⟨he, hw⟩ := h1
  subst he
  refine y_aload_n dL_law_355 rfl 2 rfl ?_
  refine y_aload_n dL_law_356 rfl 0 rfl ?_
  refine y_iload_n dL_law_357 rfl 3 rfl ?_
  refine y_iconst dL_law_358 cI_1 ?_
  refine y_iadd dL_law_359 ?_
  refine y_sld (hin 1 (by decide)) dL_law_360 ?_
  refine y_aload_n dL_law_361 rfl 0 rfl ?_
  refine y_iload_n dL_law_362 rfl 3 rfl ?_
  refine y_iconst dL_law_363 cI_2 ?_
  refine y_iadd dL_law_364 ?_
  refine y_sld (hin 2 (by decide)) dL_law_365 ?_
  refine y_callVM (M2 := M_X7_about) (As := [.int (xs ((nI i) + 1).toNatClampNeg), .int (xs ((nI i) + 2).toNatClampNeg)]) (st := [.int r1]) (ci := 7) (Nat.le_of_ble_eq_true rfl) rfl hW7.1 wS_X7_about (List.mem_filter.mp wM_L_41).1 wI_X7_about dL_law_366 rfl ok_X7_about ⟨(Nat.le_of_ble_eq_true rfl), (Nat.le_of_ble_eq_true rfl)⟩ (Nat.le_of_ble_eq_true rfl) (ct_X7_about (σ := yN τ (xh_n σ)) hW7 hw) (xqI.y (f := fun τ2 => yN σ (xh_n τ2)) (g := fun τ2 => τ2) (fun r2 τ2 h2 => ?_))
  obtain ⟨he, hr⟩ := h2
  subst he
  replace hI : INV (κ + 1) (yN σ (xh_n (yN τ (xh_n σ)))) (yN τ (xh_n σ)) := hO.2.1 κ σ τ (xh_n σ) hI
  refine y_icmp_eq 827 dL_law_369 rfl (fun hc => ?_) (fun hc => absurd hr hc)
  exact hend _ _ hI
set_option maxRecDepth 100000 in
set_option maxHeartbeats 4000000 in
theorem law_c6 {b L : Nat} {xs : Nat → Int32} {x m i κ : Nat} {INV : Nat → xS → xS → Prop} {σ τ : xS} (hO : yOps x m INV) (hκ : κ < 512) (hI : INV κ σ τ) (hin : ∀ k : Nat, k < 7 → vp_in (nI i + nI k) L) (hend : ∀ σ τ, INV (κ + 1) σ τ → yY b L xs 827 [(0, .ref b), (1, .ref x), (2, .ref m), (3, .int (nI i))] [] σ τ) : yY b L xs 374 [(0, .ref b), (1, .ref x), (2, .ref m), (3, .int (nI i))] [] σ τ := by
  have hW6 := (hO.1 κ σ τ hI).1
  have hW7 := (hO.1 κ σ τ hI).2
  refine y_aload_n dL_law_374 rfl 1 rfl ?_
  refine y_aload_n dL_law_375 rfl 0 rfl ?_
  refine y_iload_n dL_law_376 rfl 3 rfl ?_
  refine y_iconst dL_law_377 cI_1 ?_
  refine y_iadd dL_law_378 ?_
  refine y_sld (hin 1 (by decide)) dL_law_379 ?_
  refine y_aload_n dL_law_380 rfl 0 rfl ?_
  refine y_iload_n dL_law_381 rfl 3 rfl ?_
  refine y_iconst dL_law_382 cI_2 ?_
  refine y_iadd dL_law_383 ?_
  refine y_sld (hin 2 (by decide)) dL_law_384 ?_
  refine y_aload_n dL_law_385 rfl 0 rfl ?_
  refine y_iload_n dL_law_386 rfl 3 rfl ?_
  refine y_iconst dL_law_387 cI_3 ?_
  refine y_iadd dL_law_388 ?_
  refine y_sld (hin 3 (by decide)) dL_law_389 ?_
  refine y_aload_n dL_law_390 rfl 0 rfl ?_
  refine y_iload_n dL_law_391 rfl 3 rfl ?_
  refine y_iconst dL_law_392 cI_4 ?_
  refine y_iadd dL_law_393 ?_
  refine y_sld (hin 4 (by decide)) dL_law_394 ?_
  refine y_aload_n dL_law_395 rfl 0 rfl ?_
  refine y_iload_n dL_law_396 rfl 3 rfl ?_
  refine y_iconst dL_law_397 cI_5 ?_
  refine y_iadd dL_law_398 ?_
  refine y_sld (hin 5 (by decide)) dL_law_399 ?_
  refine y_aload_n dL_law_400 rfl 0 rfl ?_
  refine y_iload_n dL_law_401 rfl 3 rfl ?_
  refine y_bipush dL_law_402 cB_6 ?_
  refine y_iadd dL_law_404 ?_
  refine y_sld (hin 6 (by decide)) dL_law_405 ?_
  have hw := hO.2.2.2.2.2.2.2.2.1 κ σ τ (xs ((nI i) + 1).toNatClampNeg) (xs ((nI i) + 2).toNatClampNeg) (xs ((nI i) + 3).toNatClampNeg) (xs ((nI i) + 4).toNatClampNeg) (xs ((nI i) + 5).toNatClampNeg) (xs ((nI i) + 6).toNatClampNeg) hκ hI
  refine y_callVC (M2 := M_X6_ask) (As := [.int (xs ((nI i) + 1).toNatClampNeg), .int (xs ((nI i) + 2).toNatClampNeg), .int (xs ((nI i) + 3).toNatClampNeg), .int (xs ((nI i) + 4).toNatClampNeg), .int (xs ((nI i) + 5).toNatClampNeg), .int (xs ((nI i) + 6).toNatClampNeg)]) (st := []) (ci := 6) (Nat.le_of_ble_eq_true rfl) rfl hW6.1 wS_X6_ask (List.mem_filter.mp wM_L_42).1 wI_X6_ask dL_law_406 rfl ok_X6_ask ⟨(Nat.le_of_ble_eq_true rfl), (Nat.le_of_ble_eq_true rfl)⟩ (Nat.le_of_ble_eq_true rfl) (ct_X6_ask hW6 hw) (xqI.y (f := fun σ2 => σ2) (g := fun _ => τ) (fun r1 σ2 h1 => ?_))
  obtain ⟨-, hw⟩ := h1
  refine y_aload_n dL_law_409 rfl 2 rfl ?_
  refine y_aload_n dL_law_410 rfl 0 rfl ?_
  refine y_iload_n dL_law_411 rfl 3 rfl ?_
  refine y_iconst dL_law_412 cI_1 ?_
  refine y_iadd dL_law_413 ?_
  refine y_sld (hin 1 (by decide)) dL_law_414 ?_
  refine y_aload_n dL_law_415 rfl 0 rfl ?_
  refine y_iload_n dL_law_416 rfl 3 rfl ?_
  refine y_iconst dL_law_417 cI_2 ?_
  refine y_iadd dL_law_418 ?_
  refine y_sld (hin 2 (by decide)) dL_law_419 ?_
  refine y_aload_n dL_law_420 rfl 0 rfl ?_
  refine y_iload_n dL_law_421 rfl 3 rfl ?_
  refine y_iconst dL_law_422 cI_3 ?_
  refine y_iadd dL_law_423 ?_
  refine y_sld (hin 3 (by decide)) dL_law_424 ?_
  refine y_aload_n dL_law_425 rfl 0 rfl ?_
  refine y_iload_n dL_law_426 rfl 3 rfl ?_
  refine y_iconst dL_law_427 cI_4 ?_
  refine y_iadd dL_law_428 ?_
  refine y_sld (hin 4 (by decide)) dL_law_429 ?_
  refine y_aload_n dL_law_430 rfl 0 rfl ?_
  refine y_iload_n dL_law_431 rfl 3 rfl ?_
  refine y_iconst dL_law_432 cI_5 ?_
  refine y_iadd dL_law_433 ?_
  refine y_sld (hin 5 (by decide)) dL_law_434 ?_
  refine y_aload_n dL_law_435 rfl 0 rfl ?_
  refine y_iload_n dL_law_436 rfl 3 rfl ?_
  refine y_bipush dL_law_437 cB_6 ?_
  refine y_iadd dL_law_439 ?_
  refine y_sld (hin 6 (by decide)) dL_law_440 ?_
  refine y_callVM (M2 := M_X7_ask) (As := [.int (xs ((nI i) + 1).toNatClampNeg), .int (xs ((nI i) + 2).toNatClampNeg), .int (xs ((nI i) + 3).toNatClampNeg), .int (xs ((nI i) + 4).toNatClampNeg), .int (xs ((nI i) + 5).toNatClampNeg), .int (xs ((nI i) + 6).toNatClampNeg)]) (st := [.int r1]) (ci := 7) (Nat.le_of_ble_eq_true rfl) rfl hW7.1 wS_X7_ask (List.mem_filter.mp wM_L_46).1 wI_X7_ask dL_law_441 rfl ok_X7_ask ⟨(Nat.le_of_ble_eq_true rfl), (Nat.le_of_ble_eq_true rfl)⟩ (Nat.le_of_ble_eq_true rfl) (ct_X7_ask (σ := yN τ (xh_n σ2)) hW7 hw) (xqI.y (f := fun τ2 => yN σ2 (xh_n τ2)) (g := fun τ2 => τ2) (fun r2 τ2 h2 => ?_))
  obtain ⟨-, hr, hI⟩ := h2
  refine y_icmp_eq 827 dL_law_444 rfl (fun hc => ?_) (fun hc => absurd hr hc)
  exact hend _ _ hI
set_option maxRecDepth 100000 in
set_option maxHeartbeats 4000000 in
theorem law_c7 {b L : Nat} {xs : Nat → Int32} {x m i κ : Nat} {INV : Nat → xS → xS → Prop} {σ τ : xS} (hO : yOps x m INV) (hκ : κ < 512) (hI : INV κ σ τ) (hin : ∀ k : Nat, k < 7 → vp_in (nI i + nI k) L) (hend : ∀ σ τ, INV (κ + 1) σ τ → yY b L xs 827 [(0, .ref b), (1, .ref x), (2, .ref m), (3, .int (nI i))] [] σ τ) : yY b L xs 449 [(0, .ref b), (1, .ref x), (2, .ref m), (3, .int (nI i))] [] σ τ := by
  have hW6 := (hO.1 κ σ τ hI).1
  have hW7 := (hO.1 κ σ τ hI).2
  refine y_aload_n dL_law_449 rfl 1 rfl ?_
  refine y_aload_n dL_law_450 rfl 0 rfl ?_
  refine y_iload_n dL_law_451 rfl 3 rfl ?_
  refine y_iconst dL_law_452 cI_1 ?_
  refine y_iadd dL_law_453 ?_
  refine y_sld (hin 1 (by decide)) dL_law_454 ?_
  refine y_aload_n dL_law_455 rfl 0 rfl ?_
  refine y_iload_n dL_law_456 rfl 3 rfl ?_
  refine y_iconst dL_law_457 cI_2 ?_
  refine y_iadd dL_law_458 ?_
  refine y_sld (hin 2 (by decide)) dL_law_459 ?_
  refine y_aload_n dL_law_460 rfl 0 rfl ?_
  refine y_iload_n dL_law_461 rfl 3 rfl ?_
  refine y_iconst dL_law_462 cI_3 ?_
  refine y_iadd dL_law_463 ?_
  refine y_sld (hin 3 (by decide)) dL_law_464 ?_
  have hw := hO.2.2.2.2.2.2.2.2.2.1 κ σ τ (xs ((nI i) + 1).toNatClampNeg) (xs ((nI i) + 2).toNatClampNeg) (xs ((nI i) + 3).toNatClampNeg) hκ hI
  refine y_callVC (M2 := M_X6_when) (As := [.int (xs ((nI i) + 1).toNatClampNeg), .int (xs ((nI i) + 2).toNatClampNeg), .int (xs ((nI i) + 3).toNatClampNeg)]) (st := []) (ci := 6) (Nat.le_of_ble_eq_true rfl) rfl hW6.1 wS_X6_when (List.mem_filter.mp wM_L_47).1 wI_X6_when dL_law_465 rfl ok_X6_when ⟨(Nat.le_of_ble_eq_true rfl), (Nat.le_of_ble_eq_true rfl)⟩ (Nat.le_of_ble_eq_true rfl) (ct_X6_when hW6 hw) (xqI.y (f := fun σ2 => σ2) (g := fun _ => τ) (fun r1 σ2 h1 => ?_))
  obtain ⟨-, hw⟩ := h1
  refine y_aload_n dL_law_468 rfl 2 rfl ?_
  refine y_aload_n dL_law_469 rfl 0 rfl ?_
  refine y_iload_n dL_law_470 rfl 3 rfl ?_
  refine y_iconst dL_law_471 cI_1 ?_
  refine y_iadd dL_law_472 ?_
  refine y_sld (hin 1 (by decide)) dL_law_473 ?_
  refine y_aload_n dL_law_474 rfl 0 rfl ?_
  refine y_iload_n dL_law_475 rfl 3 rfl ?_
  refine y_iconst dL_law_476 cI_2 ?_
  refine y_iadd dL_law_477 ?_
  refine y_sld (hin 2 (by decide)) dL_law_478 ?_
  refine y_aload_n dL_law_479 rfl 0 rfl ?_
  refine y_iload_n dL_law_480 rfl 3 rfl ?_
  refine y_iconst dL_law_481 cI_3 ?_
  refine y_iadd dL_law_482 ?_
  refine y_sld (hin 3 (by decide)) dL_law_483 ?_
  refine y_callVM (M2 := M_X7_when) (As := [.int (xs ((nI i) + 1).toNatClampNeg), .int (xs ((nI i) + 2).toNatClampNeg), .int (xs ((nI i) + 3).toNatClampNeg)]) (st := [.int r1]) (ci := 7) (Nat.le_of_ble_eq_true rfl) rfl hW7.1 wS_X7_when (List.mem_filter.mp wM_L_50).1 wI_X7_when dL_law_484 rfl ok_X7_when ⟨(Nat.le_of_ble_eq_true rfl), (Nat.le_of_ble_eq_true rfl)⟩ (Nat.le_of_ble_eq_true rfl) (ct_X7_when (σ := yN τ (xh_n σ2)) hW7 hw) (xqI.y (f := fun τ2 => yN σ2 (xh_n τ2)) (g := fun τ2 => τ2) (fun r2 τ2 h2 => ?_))
  obtain ⟨-, hr, hI⟩ := h2
  refine y_icmp_eq 827 dL_law_487 rfl (fun hc => ?_) (fun hc => absurd hr hc)
  exact hend _ _ hI
set_option maxRecDepth 100000 in
set_option maxHeartbeats 4000000 in
theorem law_c8 {b L : Nat} {xs : Nat → Int32} {x m i κ : Nat} {INV : Nat → xS → xS → Prop} {σ τ : xS} (hO : yOps x m INV) (hκ : κ < 512) (hI : INV κ σ τ) (hin : ∀ k : Nat, k < 7 → vp_in (nI i + nI k) L) (hend : ∀ σ τ, INV (κ + 1) σ τ → yY b L xs 827 [(0, .ref b), (1, .ref x), (2, .ref m), (3, .int (nI i))] [] σ τ) : yY b L xs 492 [(0, .ref b), (1, .ref x), (2, .ref m), (3, .int (nI i))] [] σ τ := by
  have hW6 := (hO.1 κ σ τ hI).1
  have hW7 := (hO.1 κ σ τ hI).2
  refine y_aload_n dL_law_492 rfl 1 rfl ?_
  refine y_aload_n dL_law_493 rfl 0 rfl ?_
  refine y_iload_n dL_law_494 rfl 3 rfl ?_
  refine y_iconst dL_law_495 cI_1 ?_
  refine y_iadd dL_law_496 ?_
  refine y_sld (hin 1 (by decide)) dL_law_497 ?_
  refine y_aload_n dL_law_498 rfl 0 rfl ?_
  refine y_iload_n dL_law_499 rfl 3 rfl ?_
  refine y_iconst dL_law_500 cI_2 ?_
  refine y_iadd dL_law_501 ?_
  refine y_sld (hin 2 (by decide)) dL_law_502 ?_
  refine y_aload_n dL_law_503 rfl 0 rfl ?_
  refine y_iload_n dL_law_504 rfl 3 rfl ?_
  refine y_iconst dL_law_505 cI_3 ?_
  refine y_iadd dL_law_506 ?_
  refine y_sld (hin 3 (by decide)) dL_law_507 ?_
  have hw := hO.2.2.2.2.2.2.2.2.2.2.1 κ σ τ (xs ((nI i) + 1).toNatClampNeg) (xs ((nI i) + 2).toNatClampNeg) (xs ((nI i) + 3).toNatClampNeg) hκ hI
  refine y_callVC (M2 := M_X6_state) (As := [.int (xs ((nI i) + 1).toNatClampNeg), .int (xs ((nI i) + 2).toNatClampNeg), .int (xs ((nI i) + 3).toNatClampNeg)]) (st := []) (ci := 6) (Nat.le_of_ble_eq_true rfl) rfl hW6.1 wS_X6_state (List.mem_filter.mp wM_L_51).1 wI_X6_state dL_law_508 rfl ok_X6_state ⟨(Nat.le_of_ble_eq_true rfl), (Nat.le_of_ble_eq_true rfl)⟩ (Nat.le_of_ble_eq_true rfl) (ct_X6_state hW6 hw) (xqI.y (f := fun σ2 => σ2) (g := fun _ => τ) (fun r1 σ2 h1 => ?_))
  obtain ⟨he, hw⟩ := h1
  subst he
  refine y_aload_n dL_law_511 rfl 2 rfl ?_
  refine y_aload_n dL_law_512 rfl 0 rfl ?_
  refine y_iload_n dL_law_513 rfl 3 rfl ?_
  refine y_iconst dL_law_514 cI_1 ?_
  refine y_iadd dL_law_515 ?_
  refine y_sld (hin 1 (by decide)) dL_law_516 ?_
  refine y_aload_n dL_law_517 rfl 0 rfl ?_
  refine y_iload_n dL_law_518 rfl 3 rfl ?_
  refine y_iconst dL_law_519 cI_2 ?_
  refine y_iadd dL_law_520 ?_
  refine y_sld (hin 2 (by decide)) dL_law_521 ?_
  refine y_aload_n dL_law_522 rfl 0 rfl ?_
  refine y_iload_n dL_law_523 rfl 3 rfl ?_
  refine y_iconst dL_law_524 cI_3 ?_
  refine y_iadd dL_law_525 ?_
  refine y_sld (hin 3 (by decide)) dL_law_526 ?_
  refine y_callVM (M2 := M_X7_state) (As := [.int (xs ((nI i) + 1).toNatClampNeg), .int (xs ((nI i) + 2).toNatClampNeg), .int (xs ((nI i) + 3).toNatClampNeg)]) (st := [.int r1]) (ci := 7) (Nat.le_of_ble_eq_true rfl) rfl hW7.1 wS_X7_state (List.mem_filter.mp wM_L_54).1 wI_X7_state dL_law_527 rfl ok_X7_state ⟨(Nat.le_of_ble_eq_true rfl), (Nat.le_of_ble_eq_true rfl)⟩ (Nat.le_of_ble_eq_true rfl) (ct_X7_state (σ := yN τ (xh_n σ)) hW7 hw) (xqI.y (f := fun τ2 => yN σ (xh_n τ2)) (g := fun τ2 => τ2) (fun r2 τ2 h2 => ?_))
  obtain ⟨he, hr⟩ := h2
  subst he
  replace hI : INV (κ + 1) (yN σ (xh_n (yN τ (xh_n σ)))) (yN τ (xh_n σ)) := hO.2.1 κ σ τ (xh_n σ) hI
  refine y_icmp_eq 827 dL_law_530 rfl (fun hc => ?_) (fun hc => absurd hr hc)
  exact hend _ _ hI
set_option maxRecDepth 100000 in
set_option maxHeartbeats 4000000 in
theorem law_c9 {b L : Nat} {xs : Nat → Int32} {x m i κ : Nat} {INV : Nat → xS → xS → Prop} {σ τ : xS} (hO : yOps x m INV) (hκ : κ < 512) (hI : INV κ σ τ) (hin : ∀ k : Nat, k < 7 → vp_in (nI i + nI k) L) (hend : ∀ σ τ, INV (κ + 1) σ τ → yY b L xs 827 [(0, .ref b), (1, .ref x), (2, .ref m), (3, .int (nI i))] [] σ τ) : yY b L xs 535 [(0, .ref b), (1, .ref x), (2, .ref m), (3, .int (nI i))] [] σ τ := by
  have hW6 := (hO.1 κ σ τ hI).1
  have hW7 := (hO.1 κ σ τ hI).2
  refine y_aload_n dL_law_535 rfl 1 rfl ?_
  refine y_aload_n dL_law_536 rfl 0 rfl ?_
  refine y_iload_n dL_law_537 rfl 3 rfl ?_
  refine y_iconst dL_law_538 cI_1 ?_
  refine y_iadd dL_law_539 ?_
  refine y_sld (hin 1 (by decide)) dL_law_540 ?_
  refine y_aload_n dL_law_541 rfl 0 rfl ?_
  refine y_iload_n dL_law_542 rfl 3 rfl ?_
  refine y_iconst dL_law_543 cI_2 ?_
  refine y_iadd dL_law_544 ?_
  refine y_sld (hin 2 (by decide)) dL_law_545 ?_
  have hw := hO.2.2.2.2.2.2.2.2.2.2.2.1 κ σ τ (xs ((nI i) + 1).toNatClampNeg) (xs ((nI i) + 2).toNatClampNeg) hκ hI
  refine y_callVC (M2 := M_X6_promise) (As := [.int (xs ((nI i) + 1).toNatClampNeg), .int (xs ((nI i) + 2).toNatClampNeg)]) (st := []) (ci := 6) (Nat.le_of_ble_eq_true rfl) rfl hW6.1 wS_X6_promise (List.mem_filter.mp wM_L_55).1 wI_X6_promise dL_law_546 rfl ok_X6_promise ⟨(Nat.le_of_ble_eq_true rfl), (Nat.le_of_ble_eq_true rfl)⟩ (Nat.le_of_ble_eq_true rfl) (ct_X6_promise hW6 hw) (xqI.y (f := fun σ2 => σ2) (g := fun _ => τ) (fun r1 σ2 h1 => ?_))
  obtain ⟨he, hw⟩ := h1
  subst he
  refine y_aload_n dL_law_549 rfl 2 rfl ?_
  refine y_aload_n dL_law_550 rfl 0 rfl ?_
  refine y_iload_n dL_law_551 rfl 3 rfl ?_
  refine y_iconst dL_law_552 cI_1 ?_
  refine y_iadd dL_law_553 ?_
  refine y_sld (hin 1 (by decide)) dL_law_554 ?_
  refine y_aload_n dL_law_555 rfl 0 rfl ?_
  refine y_iload_n dL_law_556 rfl 3 rfl ?_
  refine y_iconst dL_law_557 cI_2 ?_
  refine y_iadd dL_law_558 ?_
  refine y_sld (hin 2 (by decide)) dL_law_559 ?_
  refine y_callVM (M2 := M_X7_promise) (As := [.int (xs ((nI i) + 1).toNatClampNeg), .int (xs ((nI i) + 2).toNatClampNeg)]) (st := [.int r1]) (ci := 7) (Nat.le_of_ble_eq_true rfl) rfl hW7.1 wS_X7_promise (List.mem_filter.mp wM_L_58).1 wI_X7_promise dL_law_560 rfl ok_X7_promise ⟨(Nat.le_of_ble_eq_true rfl), (Nat.le_of_ble_eq_true rfl)⟩ (Nat.le_of_ble_eq_true rfl) (ct_X7_promise (σ := yN τ (xh_n σ)) hW7 hw) (xqI.y (f := fun τ2 => yN σ (xh_n τ2)) (g := fun τ2 => τ2) (fun r2 τ2 h2 => ?_))
  obtain ⟨he, hr⟩ := h2
  subst he
  replace hI : INV (κ + 1) (yN σ (xh_n (yN τ (xh_n σ)))) (yN τ (xh_n σ)) := hO.2.1 κ σ τ (xh_n σ) hI
  refine y_icmp_eq 827 dL_law_563 rfl (fun hc => ?_) (fun hc => absurd hr hc)
  exact hend _ _ hI
set_option maxRecDepth 100000 in
set_option maxHeartbeats 4000000 in
theorem law_c10 {b L : Nat} {xs : Nat → Int32} {x m i κ : Nat} {INV : Nat → xS → xS → Prop} {σ τ : xS} (hO : yOps x m INV) (hκ : κ < 512) (hI : INV κ σ τ) (hin : ∀ k : Nat, k < 7 → vp_in (nI i + nI k) L) (hend : ∀ σ τ, INV (κ + 1) σ τ → yY b L xs 827 [(0, .ref b), (1, .ref x), (2, .ref m), (3, .int (nI i))] [] σ τ) : yY b L xs 568 [(0, .ref b), (1, .ref x), (2, .ref m), (3, .int (nI i))] [] σ τ := by
  have hW6 := (hO.1 κ σ τ hI).1
  have hW7 := (hO.1 κ σ τ hI).2
  refine y_aload_n dL_law_568 rfl 1 rfl ?_
  refine y_aload_n dL_law_569 rfl 0 rfl ?_
  refine y_iload_n dL_law_570 rfl 3 rfl ?_
  refine y_iconst dL_law_571 cI_1 ?_
  refine y_iadd dL_law_572 ?_
  refine y_sld (hin 1 (by decide)) dL_law_573 ?_
  refine y_aload_n dL_law_574 rfl 0 rfl ?_
  refine y_iload_n dL_law_575 rfl 3 rfl ?_
  refine y_iconst dL_law_576 cI_2 ?_
  refine y_iadd dL_law_577 ?_
  refine y_sld (hin 2 (by decide)) dL_law_578 ?_
  have hw := hO.2.2.2.2.2.2.2.2.2.2.2.2.1 κ σ τ (xs ((nI i) + 1).toNatClampNeg) (xs ((nI i) + 2).toNatClampNeg) hκ hI
  refine y_callVC (M2 := M_X6_deliver) (As := [.int (xs ((nI i) + 1).toNatClampNeg), .int (xs ((nI i) + 2).toNatClampNeg)]) (st := []) (ci := 6) (Nat.le_of_ble_eq_true rfl) rfl hW6.1 wS_X6_deliver (List.mem_filter.mp wM_L_59).1 wI_X6_deliver dL_law_579 rfl ok_X6_deliver ⟨(Nat.le_of_ble_eq_true rfl), (Nat.le_of_ble_eq_true rfl)⟩ (Nat.le_of_ble_eq_true rfl) (ct_X6_deliver hW6 hw) (xqI.y (f := fun σ2 => σ2) (g := fun _ => τ) (fun r1 σ2 h1 => ?_))
  obtain ⟨-, hw⟩ := h1
  refine y_aload_n dL_law_582 rfl 2 rfl ?_
  refine y_aload_n dL_law_583 rfl 0 rfl ?_
  refine y_iload_n dL_law_584 rfl 3 rfl ?_
  refine y_iconst dL_law_585 cI_1 ?_
  refine y_iadd dL_law_586 ?_
  refine y_sld (hin 1 (by decide)) dL_law_587 ?_
  refine y_aload_n dL_law_588 rfl 0 rfl ?_
  refine y_iload_n dL_law_589 rfl 3 rfl ?_
  refine y_iconst dL_law_590 cI_2 ?_
  refine y_iadd dL_law_591 ?_
  refine y_sld (hin 2 (by decide)) dL_law_592 ?_
  refine y_callVM (M2 := M_X7_deliver) (As := [.int (xs ((nI i) + 1).toNatClampNeg), .int (xs ((nI i) + 2).toNatClampNeg)]) (st := [.int r1]) (ci := 7) (Nat.le_of_ble_eq_true rfl) rfl hW7.1 wS_X7_deliver (List.mem_filter.mp wM_L_62).1 wI_X7_deliver dL_law_593 rfl ok_X7_deliver ⟨(Nat.le_of_ble_eq_true rfl), (Nat.le_of_ble_eq_true rfl)⟩ (Nat.le_of_ble_eq_true rfl) (ct_X7_deliver (σ := yN τ (xh_n σ2)) hW7 hw) (xqI.y (f := fun τ2 => yN σ2 (xh_n τ2)) (g := fun τ2 => τ2) (fun r2 τ2 h2 => ?_))
  obtain ⟨-, hr, hI⟩ := h2
  refine y_icmp_eq 827 dL_law_596 rfl (fun hc => ?_) (fun hc => absurd hr hc)
  exact hend _ _ hI
set_option maxRecDepth 100000 in
set_option maxHeartbeats 4000000 in
theorem law_c11 {b L : Nat} {xs : Nat → Int32} {x m i κ : Nat} {INV : Nat → xS → xS → Prop} {σ τ : xS} (hO : yOps x m INV) (hκ : κ < 512) (hI : INV κ σ τ) (hin : ∀ k : Nat, k < 7 → vp_in (nI i + nI k) L) (hend : ∀ σ τ, INV (κ + 1) σ τ → yY b L xs 827 [(0, .ref b), (1, .ref x), (2, .ref m), (3, .int (nI i))] [] σ τ) : yY b L xs 601 [(0, .ref b), (1, .ref x), (2, .ref m), (3, .int (nI i))] [] σ τ := by
  have hW6 := (hO.1 κ σ τ hI).1
  have hW7 := (hO.1 κ σ τ hI).2
  refine y_aload_n dL_law_601 rfl 1 rfl ?_
  refine y_aload_n dL_law_602 rfl 0 rfl ?_
  refine y_iload_n dL_law_603 rfl 3 rfl ?_
  refine y_iconst dL_law_604 cI_1 ?_
  refine y_iadd dL_law_605 ?_
  refine y_sld (hin 1 (by decide)) dL_law_606 ?_
  have hw := hO.2.2.2.2.2.2.2.2.2.2.2.2.2.1 κ σ τ (xs ((nI i) + 1).toNatClampNeg) hκ hI
  refine y_callVC (M2 := M_X6_flow) (As := [.int (xs ((nI i) + 1).toNatClampNeg)]) (st := []) (ci := 6) (Nat.le_of_ble_eq_true rfl) rfl hW6.1 wS_X6_flow (List.mem_filter.mp wM_L_63).1 wI_X6_flow dL_law_607 rfl ok_X6_flow ⟨(Nat.le_of_ble_eq_true rfl), (Nat.le_of_ble_eq_true rfl)⟩ (Nat.le_of_ble_eq_true rfl) (ct_X6_flow hW6 hw) (xqI.y (f := fun σ2 => σ2) (g := fun _ => τ) (fun r1 σ2 h1 => ?_))
  obtain ⟨-, hw⟩ := h1
  refine y_aload_n dL_law_610 rfl 2 rfl ?_
  refine y_aload_n dL_law_611 rfl 0 rfl ?_
  refine y_iload_n dL_law_612 rfl 3 rfl ?_
  refine y_iconst dL_law_613 cI_1 ?_
  refine y_iadd dL_law_614 ?_
  refine y_sld (hin 1 (by decide)) dL_law_615 ?_
  refine y_callVM (M2 := M_X7_flow) (As := [.int (xs ((nI i) + 1).toNatClampNeg)]) (st := [.int r1]) (ci := 7) (Nat.le_of_ble_eq_true rfl) rfl hW7.1 wS_X7_flow (List.mem_filter.mp wM_L_66).1 wI_X7_flow dL_law_616 rfl ok_X7_flow ⟨(Nat.le_of_ble_eq_true rfl), (Nat.le_of_ble_eq_true rfl)⟩ (Nat.le_of_ble_eq_true rfl) (ct_X7_flow (σ := yN τ (xh_n σ2)) hW7 hw) (xqI.y (f := fun τ2 => yN σ2 (xh_n τ2)) (g := fun τ2 => τ2) (fun r2 τ2 h2 => ?_))
  obtain ⟨-, hr, hI⟩ := h2
  refine y_icmp_eq 827 dL_law_619 rfl (fun hc => ?_) (fun hc => absurd hr hc)
  exact hend _ _ hI
set_option maxRecDepth 100000 in
set_option maxHeartbeats 4000000 in
theorem law_c12 {b L : Nat} {xs : Nat → Int32} {x m i κ : Nat} {INV : Nat → xS → xS → Prop} {σ τ : xS} (hO : yOps x m INV) (hκ : κ < 512) (hI : INV κ σ τ) (hin : ∀ k : Nat, k < 7 → vp_in (nI i + nI k) L) (hend : ∀ σ τ, INV (κ + 1) σ τ → yY b L xs 827 [(0, .ref b), (1, .ref x), (2, .ref m), (3, .int (nI i))] [] σ τ) : yY b L xs 624 [(0, .ref b), (1, .ref x), (2, .ref m), (3, .int (nI i))] [] σ τ := by
  have hW6 := (hO.1 κ σ τ hI).1
  have hW7 := (hO.1 κ σ τ hI).2
  refine y_aload_n dL_law_624 rfl 1 rfl ?_
  refine y_aload_n dL_law_625 rfl 0 rfl ?_
  refine y_iload_n dL_law_626 rfl 3 rfl ?_
  refine y_iconst dL_law_627 cI_1 ?_
  refine y_iadd dL_law_628 ?_
  refine y_sld (hin 1 (by decide)) dL_law_629 ?_
  refine y_aload_n dL_law_630 rfl 0 rfl ?_
  refine y_iload_n dL_law_631 rfl 3 rfl ?_
  refine y_iconst dL_law_632 cI_2 ?_
  refine y_iadd dL_law_633 ?_
  refine y_sld (hin 2 (by decide)) dL_law_634 ?_
  have hw := hO.2.2.2.2.2.2.2.2.2.2.2.2.2.2.1 κ σ τ (xs ((nI i) + 1).toNatClampNeg) (xs ((nI i) + 2).toNatClampNeg) hκ hI
  refine y_callVC (M2 := M_X6_cut) (As := [.int (xs ((nI i) + 1).toNatClampNeg), .int (xs ((nI i) + 2).toNatClampNeg)]) (st := []) (ci := 6) (Nat.le_of_ble_eq_true rfl) rfl hW6.1 wS_X6_cut (List.mem_filter.mp wM_L_67).1 wI_X6_cut dL_law_635 rfl ok_X6_cut ⟨(Nat.le_of_ble_eq_true rfl), (Nat.le_of_ble_eq_true rfl)⟩ (Nat.le_of_ble_eq_true rfl) (ct_X6_cut hW6 hw) (xqI.y (f := fun σ2 => σ2) (g := fun _ => τ) (fun r1 σ2 h1 => ?_))
  obtain ⟨-, hw⟩ := h1
  refine y_aload_n dL_law_638 rfl 2 rfl ?_
  refine y_aload_n dL_law_639 rfl 0 rfl ?_
  refine y_iload_n dL_law_640 rfl 3 rfl ?_
  refine y_iconst dL_law_641 cI_1 ?_
  refine y_iadd dL_law_642 ?_
  refine y_sld (hin 1 (by decide)) dL_law_643 ?_
  refine y_aload_n dL_law_644 rfl 0 rfl ?_
  refine y_iload_n dL_law_645 rfl 3 rfl ?_
  refine y_iconst dL_law_646 cI_2 ?_
  refine y_iadd dL_law_647 ?_
  refine y_sld (hin 2 (by decide)) dL_law_648 ?_
  refine y_callVM (M2 := M_X7_cut) (As := [.int (xs ((nI i) + 1).toNatClampNeg), .int (xs ((nI i) + 2).toNatClampNeg)]) (st := [.int r1]) (ci := 7) (Nat.le_of_ble_eq_true rfl) rfl hW7.1 wS_X7_cut (List.mem_filter.mp wM_L_70).1 wI_X7_cut dL_law_649 rfl ok_X7_cut ⟨(Nat.le_of_ble_eq_true rfl), (Nat.le_of_ble_eq_true rfl)⟩ (Nat.le_of_ble_eq_true rfl) (ct_X7_cut (σ := yN τ (xh_n σ2)) hW7 hw) (xqI.y (f := fun τ2 => yN σ2 (xh_n τ2)) (g := fun τ2 => τ2) (fun r2 τ2 h2 => ?_))
  obtain ⟨-, hr, hI⟩ := h2
  refine y_icmp_eq 827 dL_law_652 rfl (fun hc => ?_) (fun hc => absurd hr hc)
  exact hend _ _ hI
set_option maxRecDepth 100000 in
set_option maxHeartbeats 4000000 in
theorem law_c13 {b L : Nat} {xs : Nat → Int32} {x m i κ : Nat} {INV : Nat → xS → xS → Prop} {σ τ : xS} (hO : yOps x m INV) (hκ : κ < 512) (hI : INV κ σ τ) (hin : ∀ k : Nat, k < 7 → vp_in (nI i + nI k) L) (hend : ∀ σ τ, INV (κ + 1) σ τ → yY b L xs 827 [(0, .ref b), (1, .ref x), (2, .ref m), (3, .int (nI i))] [] σ τ) : yY b L xs 657 [(0, .ref b), (1, .ref x), (2, .ref m), (3, .int (nI i))] [] σ τ := by
  have hW6 := (hO.1 κ σ τ hI).1
  have hW7 := (hO.1 κ σ τ hI).2
  refine y_aload_n dL_law_657 rfl 1 rfl ?_
  refine y_aload_n dL_law_658 rfl 0 rfl ?_
  refine y_iload_n dL_law_659 rfl 3 rfl ?_
  refine y_iconst dL_law_660 cI_1 ?_
  refine y_iadd dL_law_661 ?_
  refine y_sld (hin 1 (by decide)) dL_law_662 ?_
  refine y_aload_n dL_law_663 rfl 0 rfl ?_
  refine y_iload_n dL_law_664 rfl 3 rfl ?_
  refine y_iconst dL_law_665 cI_2 ?_
  refine y_iadd dL_law_666 ?_
  refine y_sld (hin 2 (by decide)) dL_law_667 ?_
  have hw := hO.2.2.2.2.2.2.2.2.2.2.2.2.2.2.2.1 κ σ τ (xs ((nI i) + 1).toNatClampNeg) (xs ((nI i) + 2).toNatClampNeg) hκ hI
  refine y_callVC (M2 := M_X6_again) (As := [.int (xs ((nI i) + 1).toNatClampNeg), .int (xs ((nI i) + 2).toNatClampNeg)]) (st := []) (ci := 6) (Nat.le_of_ble_eq_true rfl) rfl hW6.1 wS_X6_again (List.mem_filter.mp wM_L_71).1 wI_X6_again dL_law_668 rfl ok_X6_again ⟨(Nat.le_of_ble_eq_true rfl), (Nat.le_of_ble_eq_true rfl)⟩ (Nat.le_of_ble_eq_true rfl) (ct_X6_again hW6 hw) (xqI.y (f := fun σ2 => σ2) (g := fun _ => τ) (fun r1 σ2 h1 => ?_))
  obtain ⟨-, hw⟩ := h1
  refine y_aload_n dL_law_671 rfl 2 rfl ?_
  refine y_aload_n dL_law_672 rfl 0 rfl ?_
  refine y_iload_n dL_law_673 rfl 3 rfl ?_
  refine y_iconst dL_law_674 cI_1 ?_
  refine y_iadd dL_law_675 ?_
  refine y_sld (hin 1 (by decide)) dL_law_676 ?_
  refine y_aload_n dL_law_677 rfl 0 rfl ?_
  refine y_iload_n dL_law_678 rfl 3 rfl ?_
  refine y_iconst dL_law_679 cI_2 ?_
  refine y_iadd dL_law_680 ?_
  refine y_sld (hin 2 (by decide)) dL_law_681 ?_
  refine y_callVM (M2 := M_X7_again) (As := [.int (xs ((nI i) + 1).toNatClampNeg), .int (xs ((nI i) + 2).toNatClampNeg)]) (st := [.int r1]) (ci := 7) (Nat.le_of_ble_eq_true rfl) rfl hW7.1 wS_X7_again (List.mem_filter.mp wM_L_74).1 wI_X7_again dL_law_682 rfl ok_X7_again ⟨(Nat.le_of_ble_eq_true rfl), (Nat.le_of_ble_eq_true rfl)⟩ (Nat.le_of_ble_eq_true rfl) (ct_X7_again (σ := yN τ (xh_n σ2)) hW7 hw) (xqI.y (f := fun τ2 => yN σ2 (xh_n τ2)) (g := fun τ2 => τ2) (fun r2 τ2 h2 => ?_))
  obtain ⟨-, hr, hI⟩ := h2
  refine y_icmp_eq 827 dL_law_685 rfl (fun hc => ?_) (fun hc => absurd hr hc)
  exact hend _ _ hI
set_option maxRecDepth 100000 in
set_option maxHeartbeats 4000000 in
theorem law_c14 {b L : Nat} {xs : Nat → Int32} {x m i κ : Nat} {INV : Nat → xS → xS → Prop} {σ τ : xS} (hO : yOps x m INV) (hκ : κ < 512) (hI : INV κ σ τ) (hin : ∀ k : Nat, k < 7 → vp_in (nI i + nI k) L) (hend : ∀ σ τ, INV (κ + 1) σ τ → yY b L xs 827 [(0, .ref b), (1, .ref x), (2, .ref m), (3, .int (nI i))] [] σ τ) : yY b L xs 690 [(0, .ref b), (1, .ref x), (2, .ref m), (3, .int (nI i))] [] σ τ := by
  have hW6 := (hO.1 κ σ τ hI).1
  have hW7 := (hO.1 κ σ τ hI).2
  refine y_aload_n dL_law_690 rfl 1 rfl ?_
  refine y_aload_n dL_law_691 rfl 0 rfl ?_
  refine y_iload_n dL_law_692 rfl 3 rfl ?_
  refine y_iconst dL_law_693 cI_1 ?_
  refine y_iadd dL_law_694 ?_
  refine y_sld (hin 1 (by decide)) dL_law_695 ?_
  refine y_aload_n dL_law_696 rfl 0 rfl ?_
  refine y_iload_n dL_law_697 rfl 3 rfl ?_
  refine y_iconst dL_law_698 cI_2 ?_
  refine y_iadd dL_law_699 ?_
  refine y_sld (hin 2 (by decide)) dL_law_700 ?_
  have hw := hO.2.2.2.2.2.2.2.2.2.2.2.2.2.2.2.2.1 κ σ τ (xs ((nI i) + 1).toNatClampNeg) (xs ((nI i) + 2).toNatClampNeg) hκ hI
  refine y_callVC (M2 := M_X6_wire) (As := [.int (xs ((nI i) + 1).toNatClampNeg), .int (xs ((nI i) + 2).toNatClampNeg)]) (st := []) (ci := 6) (Nat.le_of_ble_eq_true rfl) rfl hW6.1 wS_X6_wire (List.mem_filter.mp wM_L_75).1 wI_X6_wire dL_law_701 rfl ok_X6_wire ⟨(Nat.le_of_ble_eq_true rfl), (Nat.le_of_ble_eq_true rfl)⟩ (Nat.le_of_ble_eq_true rfl) (ct_X6_wire hW6 hw) (xqI.y (f := fun σ2 => σ2) (g := fun _ => τ) (fun r1 σ2 h1 => ?_))
  obtain ⟨he, hw⟩ := h1
  subst he
  refine y_aload_n dL_law_704 rfl 2 rfl ?_
  refine y_aload_n dL_law_705 rfl 0 rfl ?_
  refine y_iload_n dL_law_706 rfl 3 rfl ?_
  refine y_iconst dL_law_707 cI_1 ?_
  refine y_iadd dL_law_708 ?_
  refine y_sld (hin 1 (by decide)) dL_law_709 ?_
  refine y_aload_n dL_law_710 rfl 0 rfl ?_
  refine y_iload_n dL_law_711 rfl 3 rfl ?_
  refine y_iconst dL_law_712 cI_2 ?_
  refine y_iadd dL_law_713 ?_
  refine y_sld (hin 2 (by decide)) dL_law_714 ?_
  refine y_callVM (M2 := M_X7_wire) (As := [.int (xs ((nI i) + 1).toNatClampNeg), .int (xs ((nI i) + 2).toNatClampNeg)]) (st := [.int r1]) (ci := 7) (Nat.le_of_ble_eq_true rfl) rfl hW7.1 wS_X7_wire (List.mem_filter.mp wM_L_78).1 wI_X7_wire dL_law_715 rfl ok_X7_wire ⟨(Nat.le_of_ble_eq_true rfl), (Nat.le_of_ble_eq_true rfl)⟩ (Nat.le_of_ble_eq_true rfl) (ct_X7_wire (σ := yN τ (xh_n σ)) hW7 hw) (xqI.y (f := fun τ2 => yN σ (xh_n τ2)) (g := fun τ2 => τ2) (fun r2 τ2 h2 => ?_))
  obtain ⟨he, hr⟩ := h2
  subst he
  replace hI : INV (κ + 1) (yN σ (xh_n (yN τ (xh_n σ)))) (yN τ (xh_n σ)) := hO.2.1 κ σ τ (xh_n σ) hI
  refine y_icmp_eq 827 dL_law_718 rfl (fun hc => ?_) (fun hc => absurd hr hc)
  exact hend _ _ hI
set_option maxRecDepth 100000 in
set_option maxHeartbeats 4000000 in
theorem law_c15 {b L : Nat} {xs : Nat → Int32} {x m i κ : Nat} {INV : Nat → xS → xS → Prop} {σ τ : xS} (hO : yOps x m INV) (hκ : κ < 512) (hI : INV κ σ τ) (hin : ∀ k : Nat, k < 7 → vp_in (nI i + nI k) L) (hend : ∀ σ τ, INV (κ + 1) σ τ → yY b L xs 827 [(0, .ref b), (1, .ref x), (2, .ref m), (3, .int (nI i))] [] σ τ) : yY b L xs 723 [(0, .ref b), (1, .ref x), (2, .ref m), (3, .int (nI i))] [] σ τ := by
  have hW6 := (hO.1 κ σ τ hI).1
  have hW7 := (hO.1 κ σ τ hI).2
  refine y_aload_n dL_law_723 rfl 1 rfl ?_
  refine y_aload_n dL_law_724 rfl 0 rfl ?_
  refine y_iload_n dL_law_725 rfl 3 rfl ?_
  refine y_iconst dL_law_726 cI_1 ?_
  refine y_iadd dL_law_727 ?_
  refine y_sld (hin 1 (by decide)) dL_law_728 ?_
  refine y_aload_n dL_law_729 rfl 0 rfl ?_
  refine y_iload_n dL_law_730 rfl 3 rfl ?_
  refine y_iconst dL_law_731 cI_2 ?_
  refine y_iadd dL_law_732 ?_
  refine y_sld (hin 2 (by decide)) dL_law_733 ?_
  refine y_aload_n dL_law_734 rfl 0 rfl ?_
  refine y_iload_n dL_law_735 rfl 3 rfl ?_
  refine y_iconst dL_law_736 cI_3 ?_
  refine y_iadd dL_law_737 ?_
  refine y_sld (hin 3 (by decide)) dL_law_738 ?_
  refine y_aload_n dL_law_739 rfl 0 rfl ?_
  refine y_iload_n dL_law_740 rfl 3 rfl ?_
  refine y_iconst dL_law_741 cI_4 ?_
  refine y_iadd dL_law_742 ?_
  refine y_sld (hin 4 (by decide)) dL_law_743 ?_
  have hw := hO.2.2.2.2.2.2.2.2.2.2.2.2.2.2.2.2.2.1 κ σ τ (xs ((nI i) + 1).toNatClampNeg) (xs ((nI i) + 2).toNatClampNeg) (xs ((nI i) + 3).toNatClampNeg) (xs ((nI i) + 4).toNatClampNeg) hκ hI
  refine y_callVC (M2 := M_X6_letter) (As := [.int (xs ((nI i) + 1).toNatClampNeg), .int (xs ((nI i) + 2).toNatClampNeg), .int (xs ((nI i) + 3).toNatClampNeg), .int (xs ((nI i) + 4).toNatClampNeg)]) (st := []) (ci := 6) (Nat.le_of_ble_eq_true rfl) rfl hW6.1 wS_X6_letter (List.mem_filter.mp wM_L_79).1 wI_X6_letter dL_law_744 rfl ok_X6_letter ⟨(Nat.le_of_ble_eq_true rfl), (Nat.le_of_ble_eq_true rfl)⟩ (Nat.le_of_ble_eq_true rfl) (ct_X6_letter hW6 hw) (xqI.y (f := fun σ2 => σ2) (g := fun _ => τ) (fun r1 σ2 h1 => ?_))
  obtain ⟨he, hw⟩ := h1
  subst he
  refine y_aload_n dL_law_747 rfl 2 rfl ?_
  refine y_aload_n dL_law_748 rfl 0 rfl ?_
  refine y_iload_n dL_law_749 rfl 3 rfl ?_
  refine y_iconst dL_law_750 cI_1 ?_
  refine y_iadd dL_law_751 ?_
  refine y_sld (hin 1 (by decide)) dL_law_752 ?_
  refine y_aload_n dL_law_753 rfl 0 rfl ?_
  refine y_iload_n dL_law_754 rfl 3 rfl ?_
  refine y_iconst dL_law_755 cI_2 ?_
  refine y_iadd dL_law_756 ?_
  refine y_sld (hin 2 (by decide)) dL_law_757 ?_
  refine y_aload_n dL_law_758 rfl 0 rfl ?_
  refine y_iload_n dL_law_759 rfl 3 rfl ?_
  refine y_iconst dL_law_760 cI_3 ?_
  refine y_iadd dL_law_761 ?_
  refine y_sld (hin 3 (by decide)) dL_law_762 ?_
  refine y_aload_n dL_law_763 rfl 0 rfl ?_
  refine y_iload_n dL_law_764 rfl 3 rfl ?_
  refine y_iconst dL_law_765 cI_4 ?_
  refine y_iadd dL_law_766 ?_
  refine y_sld (hin 4 (by decide)) dL_law_767 ?_
  refine y_callVM (M2 := M_X7_letter) (As := [.int (xs ((nI i) + 1).toNatClampNeg), .int (xs ((nI i) + 2).toNatClampNeg), .int (xs ((nI i) + 3).toNatClampNeg), .int (xs ((nI i) + 4).toNatClampNeg)]) (st := [.int r1]) (ci := 7) (Nat.le_of_ble_eq_true rfl) rfl hW7.1 wS_X7_letter (List.mem_filter.mp wM_L_83).1 wI_X7_letter dL_law_768 rfl ok_X7_letter ⟨(Nat.le_of_ble_eq_true rfl), (Nat.le_of_ble_eq_true rfl)⟩ (Nat.le_of_ble_eq_true rfl) (ct_X7_letter (σ := yN τ (xh_n σ)) hW7 hw) (xqI.y (f := fun τ2 => yN σ (xh_n τ2)) (g := fun τ2 => τ2) (fun r2 τ2 h2 => ?_))
  obtain ⟨he, hr⟩ := h2
  subst he
  replace hI : INV (κ + 1) (yN σ (xh_n (yN τ (xh_n σ)))) (yN τ (xh_n σ)) := hO.2.1 κ σ τ (xh_n σ) hI
  refine y_icmp_eq 827 dL_law_771 rfl (fun hc => ?_) (fun hc => absurd hr hc)
  exact hend _ _ hI
set_option maxRecDepth 100000 in
set_option maxHeartbeats 4000000 in
theorem law_c16 {b L : Nat} {xs : Nat → Int32} {x m i κ : Nat} {INV : Nat → xS → xS → Prop} {σ τ : xS} (hO : yOps x m INV) (hκ : κ < 512) (hI : INV κ σ τ) (hin : ∀ k : Nat, k < 7 → vp_in (nI i + nI k) L) (hend : ∀ σ τ, INV (κ + 1) σ τ → yY b L xs 827 [(0, .ref b), (1, .ref x), (2, .ref m), (3, .int (nI i))] [] σ τ) : yY b L xs 776 [(0, .ref b), (1, .ref x), (2, .ref m), (3, .int (nI i))] [] σ τ := by
  have hW6 := (hO.1 κ σ τ hI).1
  have hW7 := (hO.1 κ σ τ hI).2
  refine y_aload_n dL_law_776 rfl 1 rfl ?_
  have hw := hO.2.2.2.2.2.2.2.2.2.2.2.2.2.2.2.2.2.2.1 κ σ τ hκ hI
  refine y_callVC (M2 := M_X6_purses) (As := []) (st := []) (ci := 6) (Nat.le_of_ble_eq_true rfl) rfl hW6.1 wS_X6_purses (List.mem_filter.mp wM_L_84).1 wI_X6_purses dL_law_777 rfl ok_X6_purses ⟨(Nat.le_of_ble_eq_true rfl), (Nat.le_of_ble_eq_true rfl)⟩ (Nat.le_of_ble_eq_true rfl) (ct_X6_purses hW6 hw) (xqL.y (f := fun σ2 => σ2) (g := fun _ => τ) (fun r1 σ2 h1 => ?_))
  obtain ⟨he, hw⟩ := h1
  subst he
  refine y_aload_n dL_law_780 rfl 2 rfl ?_
  refine y_callVM (M2 := M_X7_purses) (As := []) (st := [.long r1]) (ci := 7) (Nat.le_of_ble_eq_true rfl) rfl hW7.1 wS_X7_purses (List.mem_filter.mp wM_L_88).1 wI_X7_purses dL_law_781 rfl ok_X7_purses ⟨(Nat.le_of_ble_eq_true rfl), (Nat.le_of_ble_eq_true rfl)⟩ (Nat.le_of_ble_eq_true rfl) (ct_X7_purses (σ := yN τ (xh_n σ)) hW7 hw) (xqL.y (f := fun τ2 => yN σ (xh_n τ2)) (g := fun τ2 => τ2) (fun r2 τ2 h2 => ?_))
  obtain ⟨he, hr⟩ := h2
  subst he
  replace hI : INV (κ + 1) (yN σ (xh_n (yN τ (xh_n σ)))) (yN τ (xh_n σ)) := hO.2.1 κ σ τ (xh_n σ) hI
  refine y_lcmp dL_law_784 ?_
  refine y_if_eq 827 dL_law_785 rfl (fun hc => ?_) (fun hc => absurd (by rw [hr]; exact lg_cmp_self r2) hc)
  exact hend _ _ hI
set_option maxRecDepth 100000 in
set_option maxHeartbeats 4000000 in
theorem law_c17 {b L : Nat} {xs : Nat → Int32} {x m i κ : Nat} {INV : Nat → xS → xS → Prop} {σ τ : xS} (hO : yOps x m INV) (hκ : κ < 512) (hI : INV κ σ τ) (hin : ∀ k : Nat, k < 7 → vp_in (nI i + nI k) L) (hend : ∀ σ τ, INV (κ + 1) σ τ → yY b L xs 827 [(0, .ref b), (1, .ref x), (2, .ref m), (3, .int (nI i))] [] σ τ) : yY b L xs 790 [(0, .ref b), (1, .ref x), (2, .ref m), (3, .int (nI i))] [] σ τ := by
  have hW6 := (hO.1 κ σ τ hI).1
  have hW7 := (hO.1 κ σ τ hI).2
  refine y_aload_n dL_law_790 rfl 1 rfl ?_
  refine y_aload_n dL_law_791 rfl 0 rfl ?_
  refine y_iload_n dL_law_792 rfl 3 rfl ?_
  refine y_iconst dL_law_793 cI_1 ?_
  refine y_iadd dL_law_794 ?_
  refine y_sld (hin 1 (by decide)) dL_law_795 ?_
  have hw := hO.2.2.2.2.2.2.2.2.2.2.2.2.2.2.2.2.2.2.2.1 κ σ τ (xs ((nI i) + 1).toNatClampNeg) hκ hI
  refine y_callVC (M2 := M_X6_count) (As := [.int (xs ((nI i) + 1).toNatClampNeg)]) (st := []) (ci := 6) (Nat.le_of_ble_eq_true rfl) rfl hW6.1 wS_X6_count (List.mem_filter.mp wM_L_89).1 wI_X6_count dL_law_796 rfl ok_X6_count ⟨(Nat.le_of_ble_eq_true rfl), (Nat.le_of_ble_eq_true rfl)⟩ (Nat.le_of_ble_eq_true rfl) (ct_X6_count hW6 hw) (xqI.y (f := fun σ2 => σ2) (g := fun _ => τ) (fun r1 σ2 h1 => ?_))
  obtain ⟨he, hw⟩ := h1
  subst he
  refine y_aload_n dL_law_799 rfl 2 rfl ?_
  refine y_aload_n dL_law_800 rfl 0 rfl ?_
  refine y_iload_n dL_law_801 rfl 3 rfl ?_
  refine y_iconst dL_law_802 cI_1 ?_
  refine y_iadd dL_law_803 ?_
  refine y_sld (hin 1 (by decide)) dL_law_804 ?_
  refine y_callVM (M2 := M_X7_count) (As := [.int (xs ((nI i) + 1).toNatClampNeg)]) (st := [.int r1]) (ci := 7) (Nat.le_of_ble_eq_true rfl) rfl hW7.1 wS_X7_count (List.mem_filter.mp wM_L_92).1 wI_X7_count dL_law_805 rfl ok_X7_count ⟨(Nat.le_of_ble_eq_true rfl), (Nat.le_of_ble_eq_true rfl)⟩ (Nat.le_of_ble_eq_true rfl) (ct_X7_count (σ := yN τ (xh_n σ)) hW7 hw) (xqI.y (f := fun τ2 => yN σ (xh_n τ2)) (g := fun τ2 => τ2) (fun r2 τ2 h2 => ?_))
  obtain ⟨he, hr⟩ := h2
  subst he
  replace hI : INV (κ + 1) (yN σ (xh_n (yN τ (xh_n σ)))) (yN τ (xh_n σ)) := hO.2.1 κ σ τ (xh_n σ) hI
  refine y_icmp_eq 827 dL_law_808 rfl (fun hc => ?_) (fun hc => absurd hr hc)
  exact hend _ _ hI
set_option maxRecDepth 100000 in
set_option maxHeartbeats 4000000 in
theorem law_c18 {b L : Nat} {xs : Nat → Int32} {x m i κ : Nat} {INV : Nat → xS → xS → Prop} {σ τ : xS} (hO : yOps x m INV) (hκ : κ < 512) (hI : INV κ σ τ) (hin : ∀ k : Nat, k < 7 → vp_in (nI i + nI k) L) (hend : ∀ σ τ, INV (κ + 1) σ τ → yY b L xs 827 [(0, .ref b), (1, .ref x), (2, .ref m), (3, .int (nI i))] [] σ τ) : yY b L xs 813 [(0, .ref b), (1, .ref x), (2, .ref m), (3, .int (nI i))] [] σ τ := by
  have hW6 := (hO.1 κ σ τ hI).1
  have hW7 := (hO.1 κ σ τ hI).2
  refine y_aload_n dL_law_813 rfl 1 rfl ?_
  have hw := hO.2.2.2.2.2.2.2.2.2.2.2.2.2.2.2.2.2.2.2.2 κ σ τ hκ hI
  refine y_callVC (M2 := M_X6_trace) (As := []) (st := []) (ci := 6) (Nat.le_of_ble_eq_true rfl) rfl hW6.1 wS_X6_trace (List.mem_filter.mp wM_L_93).1 wI_X6_trace dL_law_814 rfl ok_X6_trace ⟨(Nat.le_of_ble_eq_true rfl), (Nat.le_of_ble_eq_true rfl)⟩ (Nat.le_of_ble_eq_true rfl) (ct_X6_trace hW6 hw) (xqL.y (f := fun σ2 => σ2) (g := fun _ => τ) (fun r1 σ2 h1 => ?_))
  obtain ⟨he, hw⟩ := h1
  subst he
  refine y_aload_n dL_law_817 rfl 2 rfl ?_
  refine y_callVM (M2 := M_X7_trace) (As := []) (st := [.long r1]) (ci := 7) (Nat.le_of_ble_eq_true rfl) rfl hW7.1 wS_X7_trace (List.mem_filter.mp wM_L_96).1 wI_X7_trace dL_law_818 rfl ok_X7_trace ⟨(Nat.le_of_ble_eq_true rfl), (Nat.le_of_ble_eq_true rfl)⟩ (Nat.le_of_ble_eq_true rfl) (ct_X7_trace (σ := yN τ (xh_n σ)) hW7 hw) (xqL.y (f := fun τ2 => yN σ (xh_n τ2)) (g := fun τ2 => τ2) (fun r2 τ2 h2 => ?_))
  obtain ⟨he, hr⟩ := h2
  subst he
  replace hI : INV (κ + 1) (yN σ (xh_n (yN τ (xh_n σ)))) (yN τ (xh_n σ)) := hO.2.1 κ σ τ (xh_n σ) hI
  refine y_lcmp dL_law_821 ?_
  refine y_if_eq 827 dL_law_822 rfl (fun hc => ?_) (fun hc => absurd (by rw [hr]; exact lg_cmp_self r2) hc)
  exact hend _ _ hI
set_option maxRecDepth 100000 in
set_option maxHeartbeats 4000000 in
theorem law_loop {b L : Nat} {xs : Nat → Int32} {x m : Nat} {INV : Nat → xS → xS → Prop} (hL : L ≤ 3584) (hO : yOps x m INV) : ∀ (n κ i : Nat) (σ τ : xS), i = 7 * κ → i ≤ L + 7 → L + 8 ≤ i + n → INV κ σ τ → yY b L xs 18 [(0, .ref b), (1, .ref x), (2, .ref m), (3, .int (nI i))] [] σ τ := by
  intro n
  induction n with
  | zero => intro κ i σ τ h0 h1 h2; omega
  | succ n ih =>
    intro κ i σ τ h0 h1 h2 hI
    refine y_iload_n dL_law_18 rfl 3 rfl ?_
    refine y_aload_n dL_law_19 rfl 0 rfl ?_
    refine y_slen dL_law_20 ?_
    refine y_bipush dL_law_21 cB_7 ?_
    refine y_isub dL_law_23 ?_
    refine y_icmp_gt 833 dL_law_24 rfl (fun hc => ?_) (fun hc => ?_)
    · refine y_iconst dL_law_833 cI_1 ?_
      exact y_ret dL_law_834
    have hi7 : i + 7 ≤ L := by
      have a1 : (nI L).toInt = (L : Int) := nI_toInt (by omega)
      have a2 : (nI i).toInt = (i : Int) := nI_toInt (by omega)
      have a3 : (nI L - 7).toInt = (L : Int) - 7 := pk_sub_toInt (a := L) (b := 7) (by omega) (by omega)
      have a4 : ¬ (nI L - 7).toInt < (nI i).toInt := fun z => hc (Int32.lt_iff_toInt_lt.mpr z)
      omega
    have hκ : κ < 512 := by omega
    have hin : ∀ k : Nat, k < 7 → vp_in (nI i + nI k) L := fun k hk => by rw [nI_add]; exact vp_in_nI (by omega) (by omega)
    have hend : ∀ σ τ, INV (κ + 1) σ τ → yY b L xs 827 [(0, .ref b), (1, .ref x), (2, .ref m), (3, .int (nI i))] [] σ τ := by
      intro σ τ hI
      refine y_iinc [(3, .int (nI i + 7)), (0, .ref b), (1, .ref x), (2, .ref m)] dL_law_827 3 rfl (congrArg _ cI_7) (Nat.le_of_ble_eq_true rfl) rfl ?_
      refine y_goto 18 dL_law_830 rfl ?_
      rw [show nI i + 7 = nI (i + 7) from nI_add i 7]
      exact y_sub [1, 2, 3, 0] rfl (ih (κ + 1) (i + 7) σ τ (by omega) (by omega) (by omega) hI)
    refine y_aload_n dL_law_27 rfl 0 rfl ?_
    refine y_iload_n dL_law_28 rfl 3 rfl ?_
    refine y_sld (by have := hin 0 (by decide); rw [nI_add] at this; exact this) dL_law_29 ?_
    refine y_bipush dL_law_30 cB_31 ?_
    refine y_iand dL_law_32 ?_
    by_cases hc0 : xs (nI i).toNatClampNeg &&& 31 = 0
    · refine y_tableIn (off := 91) 124 dL_law_33 (by rw [hc0]; decide) (by rw [hc0]; decide) (by rw [hc0]; rfl) rfl ?_
      exact law_c0 hO hκ hI hin hend
    by_cases hc1 : xs (nI i).toNatClampNeg &&& 31 = 1
    · refine y_tableIn (off := 134) 167 dL_law_33 (by rw [hc1]; decide) (by rw [hc1]; decide) (by rw [hc1]; rfl) rfl ?_
      exact law_c1 hO hκ hI hin hend
    by_cases hc2 : xs (nI i).toNatClampNeg &&& 31 = 2
    · refine y_tableIn (off := 203) 236 dL_law_33 (by rw [hc2]; decide) (by rw [hc2]; decide) (by rw [hc2]; rfl) rfl ?_
      exact law_c2 hO hκ hI hin hend
    by_cases hc3 : xs (nI i).toNatClampNeg &&& 31 = 3
    · refine y_tableIn (off := 252) 285 dL_law_33 (by rw [hc3]; decide) (by rw [hc3]; decide) (by rw [hc3]; rfl) rfl ?_
      exact law_c3 hO hκ hI hin hend
    by_cases hc4 : xs (nI i).toNatClampNeg &&& 31 = 4
    · refine y_tableIn (off := 275) 308 dL_law_33 (by rw [hc4]; decide) (by rw [hc4]; decide) (by rw [hc4]; rfl) rfl ?_
      exact law_c4 hO hκ hI hin hend
    by_cases hc5 : xs (nI i).toNatClampNeg &&& 31 = 5
    · refine y_tableIn (off := 308) 341 dL_law_33 (by rw [hc5]; decide) (by rw [hc5]; decide) (by rw [hc5]; rfl) rfl ?_
      exact law_c5 hO hκ hI hin hend
    by_cases hc6 : xs (nI i).toNatClampNeg &&& 31 = 6
    · refine y_tableIn (off := 341) 374 dL_law_33 (by rw [hc6]; decide) (by rw [hc6]; decide) (by rw [hc6]; rfl) rfl ?_
      exact law_c6 hO hκ hI hin hend
    by_cases hc7 : xs (nI i).toNatClampNeg &&& 31 = 7
    · refine y_tableIn (off := 416) 449 dL_law_33 (by rw [hc7]; decide) (by rw [hc7]; decide) (by rw [hc7]; rfl) rfl ?_
      exact law_c7 hO hκ hI hin hend
    by_cases hc8 : xs (nI i).toNatClampNeg &&& 31 = 8
    · refine y_tableIn (off := 459) 492 dL_law_33 (by rw [hc8]; decide) (by rw [hc8]; decide) (by rw [hc8]; rfl) rfl ?_
      exact law_c8 hO hκ hI hin hend
    by_cases hc9 : xs (nI i).toNatClampNeg &&& 31 = 9
    · refine y_tableIn (off := 502) 535 dL_law_33 (by rw [hc9]; decide) (by rw [hc9]; decide) (by rw [hc9]; rfl) rfl ?_
      exact law_c9 hO hκ hI hin hend
    by_cases hc10 : xs (nI i).toNatClampNeg &&& 31 = 10
    · refine y_tableIn (off := 535) 568 dL_law_33 (by rw [hc10]; decide) (by rw [hc10]; decide) (by rw [hc10]; rfl) rfl ?_
      exact law_c10 hO hκ hI hin hend
    by_cases hc11 : xs (nI i).toNatClampNeg &&& 31 = 11
    · refine y_tableIn (off := 568) 601 dL_law_33 (by rw [hc11]; decide) (by rw [hc11]; decide) (by rw [hc11]; rfl) rfl ?_
      exact law_c11 hO hκ hI hin hend
    by_cases hc12 : xs (nI i).toNatClampNeg &&& 31 = 12
    · refine y_tableIn (off := 591) 624 dL_law_33 (by rw [hc12]; decide) (by rw [hc12]; decide) (by rw [hc12]; rfl) rfl ?_
      exact law_c12 hO hκ hI hin hend
    by_cases hc13 : xs (nI i).toNatClampNeg &&& 31 = 13
    · refine y_tableIn (off := 624) 657 dL_law_33 (by rw [hc13]; decide) (by rw [hc13]; decide) (by rw [hc13]; rfl) rfl ?_
      exact law_c13 hO hκ hI hin hend
    by_cases hc14 : xs (nI i).toNatClampNeg &&& 31 = 14
    · refine y_tableIn (off := 657) 690 dL_law_33 (by rw [hc14]; decide) (by rw [hc14]; decide) (by rw [hc14]; rfl) rfl ?_
      exact law_c14 hO hκ hI hin hend
    by_cases hc15 : xs (nI i).toNatClampNeg &&& 31 = 15
    · refine y_tableIn (off := 690) 723 dL_law_33 (by rw [hc15]; decide) (by rw [hc15]; decide) (by rw [hc15]; rfl) rfl ?_
      exact law_c15 hO hκ hI hin hend
    by_cases hc16 : xs (nI i).toNatClampNeg &&& 31 = 16
    · refine y_tableIn (off := 743) 776 dL_law_33 (by rw [hc16]; decide) (by rw [hc16]; decide) (by rw [hc16]; rfl) rfl ?_
      exact law_c16 hO hκ hI hin hend
    by_cases hc17 : xs (nI i).toNatClampNeg &&& 31 = 17
    · refine y_tableIn (off := 757) 790 dL_law_33 (by rw [hc17]; decide) (by rw [hc17]; decide) (by rw [hc17]; rfl) rfl ?_
      exact law_c17 hO hκ hI hin hend
    by_cases hc18 : xs (nI i).toNatClampNeg &&& 31 = 18
    · refine y_tableIn (off := 780) 813 dL_law_33 (by rw [hc18]; decide) (by rw [hc18]; decide) (by rw [hc18]; rfl) rfl ?_
      exact law_c18 hO hκ hI hin hend
    refine y_tableOut 827 dL_law_33 (xsw_0_18 hc0 hc1 hc2 hc3 hc4 hc5 hc6 hc7 hc8 hc9 hc10 hc11 hc12 hc13 hc14 hc15 hc16 hc17 hc18) rfl ?_
    exact hend _ _ (hO.2.1 κ σ τ (xh_n τ) hI)
