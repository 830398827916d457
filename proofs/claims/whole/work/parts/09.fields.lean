theorem xf_cl {ci : Nat} (h : ci < 8) : vwCl[ci]? = some (xf_C ci, xf_T ci, xf_N ci) := by
  match ci, h with
  | 0, _ => rfl
  | 1, _ => rfl
  | 2, _ => rfl
  | 3, _ => rfl
  | 4, _ => rfl
  | 5, _ => rfl
  | 6, _ => rfl
  | 7, _ => rfl
  | n + 8, h => exact absurd h (by omega)
theorem xf_in0 : ∀ w ∈ u_ws RX0 TX0 (xf_N 0), w ∈ xTb := by decide +kernel
theorem xf_in1 : ∀ w ∈ u_ws RX1 TX1 (xf_N 1), w ∈ xTb := by decide +kernel
theorem xf_in2 : ∀ w ∈ u_ws RX2 TX2 (xf_N 2), w ∈ xTb := by decide +kernel
theorem xf_in3 : ∀ w ∈ u_ws RX3 TX3 (xf_N 3), w ∈ xTb := by decide +kernel
theorem xf_in4 : ∀ w ∈ u_ws RX4 TX4 (xf_N 4), w ∈ xTb := by decide +kernel
theorem xf_in5 : ∀ w ∈ u_ws RX5 TX5 (xf_N 5), w ∈ xTb := by decide +kernel
theorem xf_in6 : ∀ w ∈ u_ws RX6 TX6 (xf_N 6), w ∈ xTb := by decide +kernel
theorem xf_in7 : ∀ w ∈ u_ws RX7 TX7 (xf_N 7), w ∈ xTb := by decide +kernel
theorem xf_in {ci : Nat} (h : ci < 8) : ∀ w ∈ u_ws (xf_C ci) (xf_T ci) (xf_N ci), w ∈ xTb := by
  match ci, h with
  | 0, _ => exact xf_in0
  | 1, _ => exact xf_in1
  | 2, _ => exact xf_in2
  | 3, _ => exact xf_in3
  | 4, _ => exact xf_in4
  | 5, _ => exact xf_in5
  | 6, _ => exact xf_in6
  | 7, _ => exact xf_in7
  | n + 8, h => exact absurd h (by omega)
theorem xf_tyok {ci : Nat} (h : ci < 8) : ∀ k, k < xf_N ci → parseFieldDescriptor (xf_T ci k).2.2.1 = some (xf_ty ci k) := by
  match ci, h with
  | 0, _ => exact tyX0_ok
  | 1, _ => exact tyX1_ok
  | 2, _ => exact tyX2_ok
  | 3, _ => exact tyX3_ok
  | 4, _ => exact tyX4_ok
  | 5, _ => exact tyX5_ok
  | 6, _ => exact tyX6_ok
  | 7, _ => exact tyX7_ok
  | n + 8, h => exact absurd h (by omega)
theorem xf_nm {ci : Nat} (h : ci < 8) : ∀ a, a < xf_N ci → ∀ b, b < xf_N ci → a ≠ b → (xf_T ci a).2.1 ≠ (xf_T ci b).2.1 := by
  match ci, h with
  | 0, _ => exact nmX0
  | 1, _ => exact nmX1
  | 2, _ => exact nmX2
  | 3, _ => exact nmX3
  | 4, _ => exact nmX4
  | 5, _ => exact nmX5
  | 6, _ => exact nmX6
  | 7, _ => exact nmX7
  | n + 8, h => exact absurd h (by omega)
theorem xf_dc : ∀ ci, ci < 8 → ∀ k, k < xf_N ci → (xf_T ci k).1 = xf_C ci := by decide +kernel
theorem xf_N64 {ci : Nat} : xf_N ci < 64 := by
  unfold xf_N
  split <;> omega
theorem xr_upd {G : xG} {σ σ2 : xS} {H H2 : Heap} {a : Nat} (h : xr G σ H) (hz : H2.size = H.size) (ho : ∀ q, q ≠ a → H2[q]? = H[q]?) (hk : xh_k σ2 = xh_k σ) (hzz : xh_z σ2 = xh_z σ)
    (hf : ∀ ci j b, b ≠ a → ci < 8 → j < xf_N ci → xf_v σ2 ci j b = xf_v σ ci j b) (ha1 : ∀ b j, b ≠ a → xh_a σ2 b j = xh_a σ b j) (hq : ∀ b j, b ≠ a → xh_q σ2 b j = xh_q σ b j)
    (n1 : ∀ ci, xh_k σ a = ci + 1 → ci < 8 → t_OB a (G.1.1 ci) (xf_N ci) (G.1.2 ci) H2 (fun j => xf_v σ2 ci j a))
    (n2 : ∀ t, xh_k σ a = t + 9 → t < 2 → H2[a]? = some (arrV (G.2 t) (xh_z σ a) (fun j => .int (xh_a σ2 a j))))
    (n3 : ∀ t, xh_k σ a = t + 11 → t < 4 → H2[a]? = some (arrV (G.2 (t + 2)) (xh_z σ a) (fun j => va_rf (xh_q σ2 a j)))) : xr G σ2 H2 := by
  obtain ⟨h1, h2, h3, h4, h5⟩ := h
  refine ⟨fun b ci hb hc => ?_, fun b t hb ht => ?_, fun b t hb ht => ?_, fun b => by rw [hk]; exact h4 b, fun b hb => by rw [hz]; exact h5 b (by rw [← hk]; exact hb)⟩
  · rw [hk] at hb
    by_cases e : b = a
    · subst e; exact n1 ci hb hc
    · exact ((h1 b ci hb hc).kept (ho b e)).to (fun k hk' => (hf ci k b e hc hk').symm)
  · rw [hk] at hb
    by_cases e : b = a
    · subst e; rw [hzz]; exact n2 t hb ht
    · rw [ho b e, h2 b t hb ht, hzz]
      have : (fun j => Value.int (xh_a σ2 b j)) = (fun j => Value.int (xh_a σ b j)) := funext fun j => by rw [ha1 b j e]
      rw [this]
  · rw [hk] at hb
    by_cases e : b = a
    · subst e; rw [hzz]; exact n3 t hb ht
    · rw [ho b e, h3 b t hb ht, hzz]
      have : (fun j => va_rf (xh_q σ2 b j)) = (fun j => va_rf (xh_q σ b j)) := funext fun j => by rw [hq b j e]
      rw [this]
theorem x_get {M : xM} {pc : Nat} {lv : List (Nat × Value)} {st : List Value} {σ : xS} {Q : Option Value → xS → Prop} {idx ci k a : Nat} {v : Value} (hd : decode (xm_c M) pc = .ok (.getfield idx, 3)) (hw : Cond.fieldLink (xm_y M).cls idx (xf_C ci) (xf_T ci k).2.1 (xf_T ci k).2.2.1 ∈ xTb) (hci : ci < 8) (hk : k < xf_N ci) (ha : xh_k σ a = ci + 1) (hv : xf_v σ ci k a = v) (kk : xX M (pc + 3) lv (v :: st) σ Q) : xX M pc lv (.ref a :: st) σ Q := by
  intro l B G A p e R s m args below meth c C H locs cells slots L ls hl
  have C0 := C
  obtain ⟨hx, hb, hr, hml, hown, hts, ⟨hK, hNw⟩, hlk, hnm, hA, hR, hB⟩ := C
  have L0 := L
  obtain ⟨⟨hxr, hn, hm, hB1, hnm2⟩, hS, hdom, hc1, hs1⟩ := L
  obtain ⟨cell, q1, q2, q3, q4⟩ := hxr.1 a ci ha hci
  obtain ⟨hSl, hfc, kC, hkC, hkind⟩ := hK.1 ci _ (xf_cl hci)
  obtain ⟨cf, kf, fi, f, hi, hsl⟩ := hSl k hk
  have hin : ∀ w ∈ u_ws (xf_C ci) (xf_T ci) (xf_N ci), w ∈ xW M := fun w h => List.mem_cons_of_mem _ (xf_in hci w h)
  have hi2 := hi
  rw [show ((xf_C ci, xf_T ci, xf_N ci).2.1 k).1 = xf_C ci from xf_dc ci hci k hk] at hi2
  refine W.getf hx hb hown (hts _ (List.mem_cons_of_mem _ hw)) hi2 (u_facts hfc hkC (u_lays hts hin hk) hi).1 q1 (by rw [q3]; exact fun h => by cases h) (v := v) ?_ rfl rfl hd (kk l B G A p e R s m args below meth c C0 H locs cells slots L0 ls hl)
  rw [hsl, q4 k hk]
  exact congrArg some hv
theorem x_put0 {M : xM} {pc : Nat} {lv : List (Nat × Value)} {st : List Value} {σ : xS} {Q : Option Value → xS → Prop} {σ2 : xS} {idx ci k a : Nat} {v : Value} (hd : decode (xm_c M) pc = .ok (.putfield idx, 3)) (hw : Cond.fieldLink (xm_y M).cls idx (xf_C ci) (xf_T ci k).2.1 (xf_T ci k).2.2.1 ∈ xTb) (hci : ci < 8) (hk : k < xf_N ci) (ha : xh_k σ a = ci + 1)
    (hfin : (xf_T ci k).2.2.2 = false ∨ ((xf_T ci k).2.2.2 = true ∧ (xm_y M).name = "<init>" ∧ xf_C ci = (xm_y M).cls)) (hn1 : narrow (xf_ty ci k) v = v) (hfit : fits (xf_ty ci k) v = true) (e1 : xh_k σ2 = xh_k σ) (e2 : xh_n σ2 = xh_n σ) (e3 : xh_m σ2 = xh_m σ) (e4 : xh_a σ2 = xh_a σ) (e5 : xh_q σ2 = xh_q σ) (e6 : xh_z σ2 = xh_z σ) (e7 : ∀ cj j b, cj < 8 → j < xf_N cj → xf_v σ2 cj j b = if cj = ci ∧ j = k ∧ b = a then v else xf_v σ cj j b) (kk : xX M (pc + 3) lv st σ2 Q) : xX M pc lv (v :: .ref a :: st) σ Q := by
  intro l B G A p e R s m args below meth c C H locs cells slots L ls hl
  have C0 := C
  obtain ⟨hx, hb, hr, hml, hown, hts, ⟨hK, hNw⟩, hlk, hnm, hA, hR, hB⟩ := C
  have L0 := L
  obtain ⟨⟨hxr, hn, hm, hB1, hnm2⟩, hS, hdom, hc1, hs1⟩ := L
  obtain ⟨cell, q1, q2, q3, q4⟩ := hxr.1 a ci ha hci
  have hin : ∀ w ∈ u_ws (xf_C ci) (xf_T ci) (xf_N ci), w ∈ xW M := fun w h => List.mem_cons_of_mem _ (xf_in hci w h)
  have hap := va_apart (own := (xm_y M).cls) hts hin (xf_ty ci) (xf_tyok hci) (xf_nm hci) hK (xf_cl hci)
  obtain ⟨hSl, hfc, kC, hkC, hkind⟩ := hK.1 ci _ (xf_cl hci)
  obtain ⟨cf, kf, fi, f, hi, hsl⟩ := hSl k hk
  have hi2 := hi
  have hdc : ((xf_C ci, xf_T ci, xf_N ci).2.1 k).1 = xf_C ci := xf_dc ci hci k hk
  rw [hdc] at hi2
  have hst := (u_facts hfc hkC (u_lays hts hin hk) hi).1
  have hlay := hts _ (hin _ (u_in_lay hk))
  have hlink := hts _ (List.mem_cons_of_mem _ hw)
  unfold u_lay at hlay
  rcases hfin with hfin | ⟨hfin, hini, hdecl⟩
  · rw [if_neg (by rw [hfin]; decide)] at hlay
    have h6 := u_store hfc hkC hkind hlay hi (xf_tyok hci k hk) hn1 hfit
    refine W.putK hx hb (f := f) ⟨hown, hlink, ⟨_, _, _, hi2⟩, hst⟩ (by rw [q2]; exact h6) q1 q3 (by rw [hsl]; exact k2_hasslot (q4 k hk)) rfl rfl hd fun H2 e1c e2c e3c => ?_
    rw [hsl] at e1c ⊢
    refine kk l B G A p e R s m args below meth c C0 H2 _ cells slots ⟨⟨xr_upd hxr e2c e3c e1 e6 (fun cj j b hb' hc hj => ?_) (fun b j _ => by rw [e4]) (fun b j _ => by rw [e5]) (fun cj hcj hc8 => ?_) (fun t ht ht2 => ?_) (fun t ht ht2 => ?_), by rw [e2c, e2]; exact hn, by rw [e3]; exact hm, by rw [e2]; exact hB1, by rw [e2, e3]; exact hnm2⟩, hS.put e2c e3c (hdom a (by rw [ha]; omega)), fun b hb' => hdom b (by rw [← e1]; exact hb'), by rw [e2c]; exact hc1, by rw [e2c]; exact hs1⟩ ls hl
    · rw [e7 cj j b hc hj, if_neg (fun h => hb' h.2.2)]
    · have : cj = ci := by rw [ha] at hcj; omega
      subst this
      refine t_OB.to (V := updV (fun j => xf_v σ cj j a) k v) ⟨_, e1c, q2, q3, t_set q4 hap hk v⟩ (fun j hj => ?_)
      rw [e7 cj j a hci hj]
      unfold updV
      by_cases hjk : j = k
      · simp [hjk]
      · simp [hjk]
    · rw [ha] at ht; omega
    · rw [ha] at ht; omega
  · rw [if_pos hfin] at hlay
    have hcf : m.cls = cf := by
      obtain ⟨_, _, c2, _, _, _, -, -, hf2, -, -, -, hown2, -⟩ := Cond.laysFinal_spec hlay
      have e1 : c2 = cf := by have := hi.symm.trans hf2; simp at this; exact this.1.symm
      rw [show (xf_T ci k).1 = (xm_y M).cls from (xf_dc ci hci k hk).trans hdecl] at hown2
      rw [← e1]; exact Option.some.inj (hown.symm.trans hown2)
    have h6 := u_fits hfc hkC hkind (Or.inr hlay) hi (xf_tyok hci k hk) hn1 hfit
    refine W.putFinK hx hb hown hlink hi2 hst hcf (hnm.trans hini) (by rw [q2]; exact h6) q1 q3 (by rw [hsl]; exact k2_hasslot (q4 k hk)) rfl rfl hd fun H2 e1c e2c e3c => ?_
    rw [hsl] at e1c ⊢
    refine kk l B G A p e R s m args below meth c C0 H2 _ cells slots ⟨⟨xr_upd hxr e2c e3c e1 e6 (fun cj j b hb' hc hj => ?_) (fun b j _ => by rw [e4]) (fun b j _ => by rw [e5]) (fun cj hcj hc8 => ?_) (fun t ht ht2 => ?_) (fun t ht ht2 => ?_), by rw [e2c, e2]; exact hn, by rw [e3]; exact hm, by rw [e2]; exact hB1, by rw [e2, e3]; exact hnm2⟩, hS.put e2c e3c (hdom a (by rw [ha]; omega)), fun b hb' => hdom b (by rw [← e1]; exact hb'), by rw [e2c]; exact hc1, by rw [e2c]; exact hs1⟩ ls hl
    · rw [e7 cj j b hc hj, if_neg (fun h => hb' h.2.2)]
    · have : cj = ci := by rw [ha] at hcj; omega
      subst this
      refine t_OB.to (V := updV (fun j => xf_v σ cj j a) k v) ⟨_, e1c, q2, q3, t_set q4 hap hk v⟩ (fun j hj => ?_)
      rw [e7 cj j a hci hj]
      unfold updV
      by_cases hjk : j = k
      · simp [hjk]
      · simp [hjk]
    · rw [ha] at ht; omega
    · rw [ha] at ht; omega
theorem xf_ix {ci k cj j : Nat} (hk : k < 64) (hj : j < 64) : 64 * cj + j = 64 * ci + k ↔ cj = ci ∧ j = k := by omega
theorem x_putI {M : xM} {pc : Nat} {lv : List (Nat × Value)} {st : List Value} {σ : xS} {Q : Option Value → xS → Prop} {idx ci k a f : Nat} {x : Int32} (hd : decode (xm_c M) pc = .ok (.putfield idx, 3)) (hw : Cond.fieldLink (xm_y M).cls idx (xf_C ci) (xf_T ci k).2.1 (xf_T ci k).2.2.1 ∈ xTb) (hci : ci < 8) (hk : k < xf_N ci) (ha : xh_k σ a = ci + 1) (hfin : (xf_T ci k).2.2.2 = false ∨ ((xf_T ci k).2.2.2 = true ∧ (xm_y M).name = "<init>" ∧ xf_C ci = (xm_y M).cls)) (hf : f = 64 * ci + k) (hs : xf_ty ci k = .int ∨ (xf_ty ci k = .boolean ∧ (x = 0 ∨ x = 1))) (kk : xX M (pc + 3) lv st (xs_I σ f a x) Q) : xX M pc lv (.int x :: .ref a :: st) σ Q := by
  subst hf
  have hs0 : xf_s (xf_ty ci k) = 0 := by rcases hs with h | h <;> simp [h, xf_s]
  refine x_put0 (σ2 := xs_I σ (64 * ci + k) a x) hd hw hci hk ha hfin ?_ ?_ rfl rfl rfl rfl rfl rfl (fun cj j b hc hj => ?_) kk
  · rcases hs with h | ⟨h, h2⟩
    · rw [h]; rfl
    · rw [h]; rcases h2 with rfl | rfl <;> rfl
  · rcases hs with h | ⟨h, h2⟩
    · rw [h]; rfl
    · rw [h]; rcases h2 with rfl | rfl <;> rfl
  · have hj64 : j < 64 := Nat.lt_trans hj xf_N64
    have hk64 : k < 64 := Nat.lt_trans hk xf_N64
    have hI : xh_I (xs_I σ (64 * ci + k) a x) (64 * cj + j) b = if cj = ci ∧ j = k ∧ b = a then x else xh_I σ (64 * cj + j) b := by
      show xu_2 (xh_I σ) (64 * ci + k) a x (64 * cj + j) b = _
      unfold xu_2
      simp only [xf_ix hk64 hj64, and_assoc]
    unfold xf_v
    rw [hI]
    by_cases h : cj = ci ∧ j = k ∧ b = a
    · obtain ⟨rfl, rfl, rfl⟩ := h
      simp [hs0]
    · simp only [if_neg h]
      rfl
theorem x_putL {M : xM} {pc : Nat} {lv : List (Nat × Value)} {st : List Value} {σ : xS} {Q : Option Value → xS → Prop} {idx ci k a f : Nat} {x : Int64} (hd : decode (xm_c M) pc = .ok (.putfield idx, 3)) (hw : Cond.fieldLink (xm_y M).cls idx (xf_C ci) (xf_T ci k).2.1 (xf_T ci k).2.2.1 ∈ xTb) (hci : ci < 8) (hk : k < xf_N ci) (ha : xh_k σ a = ci + 1) (hfin : (xf_T ci k).2.2.2 = false ∨ ((xf_T ci k).2.2.2 = true ∧ (xm_y M).name = "<init>" ∧ xf_C ci = (xm_y M).cls)) (hf : f = 64 * ci + k) (hs : xf_ty ci k = .long) (kk : xX M (pc + 3) lv st (xs_L σ f a x) Q) : xX M pc lv (.long x :: .ref a :: st) σ Q := by
  subst hf
  have hs0 : xf_s (xf_ty ci k) = 2 := by simp [hs, xf_s]
  refine x_put0 (σ2 := xs_L σ (64 * ci + k) a x) hd hw hci hk ha hfin (by rw [hs]; rfl) (by rw [hs]; rfl) rfl rfl rfl rfl rfl rfl (fun cj j b hc hj => ?_) kk
  have hj64 : j < 64 := Nat.lt_trans hj xf_N64
  have hk64 : k < 64 := Nat.lt_trans hk xf_N64
  have hI : xh_L (xs_L σ (64 * ci + k) a x) (64 * cj + j) b = if cj = ci ∧ j = k ∧ b = a then x else xh_L σ (64 * cj + j) b := by
    show xu_2 (xh_L σ) (64 * ci + k) a x (64 * cj + j) b = _
    unfold xu_2
    simp only [xf_ix hk64 hj64, and_assoc]
  unfold xf_v
  rw [hI]
  by_cases h : cj = ci ∧ j = k ∧ b = a
  · obtain ⟨rfl, rfl, rfl⟩ := h
    simp [hs0]
  · simp only [if_neg h]
    rfl
theorem x_putR {M : xM} {pc : Nat} {lv : List (Nat × Value)} {st : List Value} {σ : xS} {Q : Option Value → xS → Prop} {idx ci k a f : Nat} {r : Option Nat} (hd : decode (xm_c M) pc = .ok (.putfield idx, 3)) (hw : Cond.fieldLink (xm_y M).cls idx (xf_C ci) (xf_T ci k).2.1 (xf_T ci k).2.2.1 ∈ xTb) (hci : ci < 8) (hk : k < xf_N ci) (ha : xh_k σ a = ci + 1) (hfin : (xf_T ci k).2.2.2 = false ∨ ((xf_T ci k).2.2.2 = true ∧ (xm_y M).name = "<init>" ∧ xf_C ci = (xm_y M).cls)) (hf : f = 64 * ci + k) (hs : xf_s (xf_ty ci k) = 1) (kk : xX M (pc + 3) lv st (xs_R σ f a r) Q) : xX M pc lv (va_rf r :: .ref a :: st) σ Q := by
  subst hf
  have hN : narrow (xf_ty ci k) (va_rf r) = va_rf r ∧ fits (xf_ty ci k) (va_rf r) = true := by
    cases ht : xf_ty ci k <;> rw [ht] at hs <;> first | (exact absurd hs (by decide)) | (cases r <;> exact ⟨rfl, rfl⟩)
  refine x_put0 (σ2 := xs_R σ (64 * ci + k) a r) hd hw hci hk ha hfin hN.1 hN.2 rfl rfl rfl rfl rfl rfl (fun cj j b hc hj => ?_) kk
  have hj64 : j < 64 := Nat.lt_trans hj xf_N64
  have hk64 : k < 64 := Nat.lt_trans hk xf_N64
  have hI : xh_R (xs_R σ (64 * ci + k) a r) (64 * cj + j) b = if cj = ci ∧ j = k ∧ b = a then r else xh_R σ (64 * cj + j) b := by
    show xu_2 (xh_R σ) (64 * ci + k) a r (64 * cj + j) b = _
    unfold xu_2
    simp only [xf_ix hk64 hj64, and_assoc]
  unfold xf_v
  rw [hI]
  by_cases h : cj = ci ∧ j = k ∧ b = a
  · obtain ⟨rfl, rfl, rfl⟩ := h
    simp [hs]
  · simp only [if_neg h]
    rfl
