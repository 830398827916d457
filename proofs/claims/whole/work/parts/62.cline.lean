/-! The class's lines, as the state's lists -/
def zs_H (S : zS) (t : Nat) (l : List Nat) : zS := (z_F S, z_N S, z_u S, z_r S, z_W S, va_up (z_H S) t l, z_Q S, z_D S)
def zs_Q (S : zS) (t : Nat) (l : List Nat) : zS := (z_F S, z_N S, z_u S, z_r S, z_W S, z_H S, va_up (z_Q S) t l, z_D S)
/-- a change of lines, of nothing else -/
def zFs (σ σ2 : xS) : Prop := zFq σ σ2 ∧ (∀ f a, f = 71 ∨ f = 72 ∨ f = 73 → xh_I σ2 f a = xh_I σ f a) ∧ (∀ f a, f = 68 ∨ f = 69 → xh_R σ2 f a = xh_R σ f a)
theorem zFs.I {σ σ2 : xS} (h : zFs σ σ2) {f a : Nat} (hf : ¬ f = 2) : xh_I σ2 f a = xh_I σ f a := by
  by_cases z : f = 71 ∨ f = 72 ∨ f = 73
  · exact h.2.1 f a z
  · exact h.1.2.2.2.2.2.2.1 f a (by omega)
theorem zFs.R {σ σ2 : xS} (h : zFs σ σ2) {f a : Nat} (hf : ¬ (f = 0 ∨ f = 1 ∨ f = 76)) : xh_R σ2 f a = xh_R σ f a := by
  by_cases z : f = 68 ∨ f = 69
  · exact h.2.2 f a z
  · exact h.1.2.2.2.2.2.2.2 f a (by omega)
theorem Lt_fs {σ σ2 : xS} {S : zS} {g : zG} {b : Nat} {l : zL} (h : zFs σ σ2) (hl : zLt σ S g b l) : zLt σ2 S g b l := by
  unfold zLt at hl ⊢
  rw [h.I (by omega), h.I (by omega), h.I (by omega), h.I (by omega), h.I (by omega), h.R (by omega), h.R (by omega), h.R (by omega), h.R (by omega)]
  exact hl
theorem Cc_fs {σ σ2 : xS} {S : zS} {g : zG} {B : Nat → List Nat} (h : zFs σ σ2) (c : zCc σ S g B) : zCc σ2 S g B := Cc_fr h.1 c (fun _ => True) ⟨fun _ _ _ _ => trivial, fun _ _ => trivial, fun _ _ _ _ => trivial⟩ (fun f a _ hf => h.2.1 f a hf) (fun f a _ hf => h.2.2 f a hf)
theorem RC_line {x : Nat} {σ σ2 : xS} {S S2 : zS} {g : zG} {B B2 : Nat → List Nat} {L2 : Nat × Nat → List Nat} (h : RC x σ S g B) (q : zFs σ σ2) (hF : z_F S2 = z_F S) (hN : z_N S2 = z_N S) (hu : z_u S2 = z_u S) (hr : z_r S2 = z_r S) (hls : zLs σ2 (lA x g) (lV S) L2) (hL : ∀ j, lV S j → lL S2 g B2 j = L2 j) (hc : zCc σ2 S2 g B2) : RC x σ2 S2 g B2 := by
  obtain ⟨c1, c2, c3, c4, c5, c6⟩ := h
  obtain ⟨d1, d2, d3, d4⟩ := fq_C q.1 c1 c2 c3 c4
  have hps : z_ps S2 = z_ps S := ps_congr (by rw [hN]) (fun w => by rw [hF])
  refine ⟨?_, ?_, ?_, ?_, zLs_congr hls (fun j hj => ?_) (fun _ _ => rfl) (fun j hj => hL j ?_), hc⟩
  · unfold zC1 at d1 ⊢; rw [hN, hu, hr]; exact d1
  · unfold zC2 kb at d2 ⊢; rw [hN, hF]; exact d2
  · unfold zC3 at d3 ⊢; rw [hN, hF]; exact d3
  · unfold zC4 z_used at d4 ⊢; rw [hN, hps]; exact d4
  · unfold lV at hj ⊢; rw [hN] at hj; exact hj
  · unfold lV at hj ⊢; rw [hN] at hj; exact hj
theorem zup_eq {α : Type} {L : Nat × Nat → α} {i j : Nat × Nat} {v : α} : zup L i v j = if j = i then v else L j := rfl
-- adding
theorem c_addW {x : Nat} {σ : xS} {S : zS} {g : zG} {B : Nat → List Nat} {w b : Nat} {l : zL} {Q : xS → Prop} (h : RC x σ S g B) (hw : w < 16) (hb : xh_k σ b = 2) (hbn : b < xh_n σ) (hl : lose S g B b) (hlt : zLt σ S g b l) (k : ∀ σ2, zFs σ σ2 → RC x σ2 (z_post S w l) g (va_up B w (B w ++ [b])) → Q σ2) : wp_X0_add σ (x + 7 + 2 * w) b Q := by
  refine c_add (A := lA x g) (V := lV S) (L := lL S g B) (i := (1, w)) h.2.2.2.2.1 (lV_1 hw) hb hbn hl (fun σ2 q1 q2 q3 hls => ?_)
  have q : zFs σ σ2 := ⟨q1, q2, q3⟩
  refine k σ2 q (RC_line h q rfl rfl rfl rfl hls (lV_ind ?_ (fun v hv => ?_) (fun t ht => ?_) (fun p hp => ?_)) ?_)
  · rw [zup_eq, if_neg (by simp)]; rfl
  · rw [zup_eq]
    show va_up B w (B w ++ [b]) v = _
    unfold va_up
    by_cases e : v = w
    · rw [if_pos e, if_pos (by rw [e])]; rfl
    · rw [if_neg e, if_neg (by simp [e])]; rfl
  · rw [zup_eq, if_neg (by simp)]; rfl
  · rw [zup_eq, if_neg (by simp)]; rfl
  · obtain ⟨a1, a2, a3⟩ := Cc_fs q h.2.2.2.2.2
    refine ⟨fun v hv => ?_, a2, a3⟩
    rw [wW_post]
    show zF2 (zLt σ2 S g) (va_up B w (B w ++ [b]) v) _
    unfold va_up
    by_cases e : v = w
    · subst e
      rw [if_pos rfl, if_pos rfl]
      exact F2_snoc _ _ (a1 v hv) (Lt_fs q hlt)
    · rw [if_neg e, if_neg e]; exact a1 v hv
theorem c_addD {x : Nat} {σ : xS} {S : zS} {g : zG} {B : Nat → List Nat} {p : Nat} {st v : Int32} {Q : xS → Prop} (h : RC x σ S g B) (hp : p < z_N S 1) (hl : lose S g B (gM g p)) (h71 : xh_I σ 71 (gM g p) = 1) (h72 : xh_I σ 72 (gM g p) = st) (h73 : xh_I σ 73 (gM g p) = v) (k : ∀ σ2, zFs σ σ2 → RC x σ2 (z_due S p st v) g B → Q σ2) : wp_X0_add σ (x + 5) (gM g p) Q := by
  obtain ⟨m1, m2, m3, m4, m5⟩ := h.2.2.2.1.2.1 p hp
  refine c_add (A := lA x g) (V := lV S) (L := lL S g B) (i := (0, 0)) h.2.2.2.2.1 lV_0 m1 (by omega) hl (fun σ2 q1 q2 q3 hls => ?_)
  have q : zFs σ σ2 := ⟨q1, q2, q3⟩
  refine k σ2 q (RC_line h q rfl rfl rfl rfl hls (lV_ind ?_ (fun w hw => ?_) (fun t ht => ?_) (fun p hp => ?_)) ?_)
  · rw [zup_eq, if_pos rfl, lL_0, lL_0]
    show (z_D S ++ [(p, st, v)]).map _ = _
    rw [List.map_append]; rfl
  · rw [zup_eq, if_neg (by simp)]; rfl
  · rw [zup_eq, if_neg (by simp)]; rfl
  · rw [zup_eq, if_neg (by simp)]; rfl
  · obtain ⟨a1, a2, a3⟩ := Cc_fs q h.2.2.2.2.2
    refine ⟨a1, fun d hd => ?_, a3⟩
    rcases List.mem_append.mp hd with z | z
    · exact a2 d z
    · have e : d = (p, st, v) := by simpa using z
      subst e
      exact ⟨by rw [q.I (by omega)]; exact h71, by rw [q.I (by omega)]; exact h72, by rw [q.I (by omega)]; exact h73⟩
theorem c_addH {x : Nat} {σ : xS} {S : zS} {g : zG} {B : Nat → List Nat} {p t : Nat} {Q : xS → Prop} (h : RC x σ S g B) (hp : p < z_N S 1) (ht : t < z_N S 0) (hl : lose S g B (gM g p)) (k : ∀ σ2, zFs σ σ2 → RC x σ2 (zs_H S t (z_H S t ++ [p])) g B → Q σ2) : wp_X0_add σ (gT g t + 1) (gM g p) Q := by
  obtain ⟨m1, m2, m3, m4, m5⟩ := h.2.2.2.1.2.1 p hp
  refine c_add (A := lA x g) (V := lV S) (L := lL S g B) (i := (2, t)) h.2.2.2.2.1 (lV_2 ht) m1 (by omega) hl (fun σ2 q1 q2 q3 hls => ?_)
  have q : zFs σ σ2 := ⟨q1, q2, q3⟩
  refine k σ2 q (RC_line h q rfl rfl rfl rfl hls (lV_ind ?_ (fun w hw => ?_) (fun t2 ht2 => ?_) (fun p hp => ?_)) (Cc_fs q h.2.2.2.2.2))
  · rw [zup_eq, if_neg (by simp)]; rfl
  · rw [zup_eq, if_neg (by simp)]; rfl
  · rw [zup_eq, lL_2]
    show (va_up (z_H S) t (z_H S t ++ [p]) t2).map (gM g) = _
    unfold va_up
    by_cases e : t2 = t
    · rw [if_pos e, if_pos (by rw [e]), List.map_append]; rfl
    · rw [if_neg e, if_neg (by simp [e])]; rfl
  · rw [zup_eq, if_neg (by simp)]; rfl
theorem c_addQ {x : Nat} {σ : xS} {S : zS} {g : zG} {B : Nat → List Nat} {p t : Nat} {Q : xS → Prop} (h : RC x σ S g B) (hp : p < z_N S 1) (ht : t < z_N S 1) (hl : lose S g B (gM g p)) (h71 : xh_I σ 71 (gM g p) = 0) (k : ∀ σ2, zFs σ σ2 → RC x σ2 (zs_Q S t (z_Q S t ++ [p])) g B → Q σ2) : wp_X0_add σ (gM g t + 2) (gM g p) Q := by
  obtain ⟨m1, m2, m3, m4, m5⟩ := h.2.2.2.1.2.1 p hp
  refine c_add (A := lA x g) (V := lV S) (L := lL S g B) (i := (3, t)) h.2.2.2.2.1 (lV_3 ht) m1 (by omega) hl (fun σ2 q1 q2 q3 hls => ?_)
  have q : zFs σ σ2 := ⟨q1, q2, q3⟩
  refine k σ2 q (RC_line h q rfl rfl rfl rfl hls (lV_ind ?_ (fun w hw => ?_) (fun t2 ht2 => ?_) (fun t2 ht2 => ?_)) ?_)
  · rw [zup_eq, if_neg (by simp)]; rfl
  · rw [zup_eq, if_neg (by simp)]; rfl
  · rw [zup_eq, if_neg (by simp)]; rfl
  · rw [zup_eq, lL_3]
    show (va_up (z_Q S) t (z_Q S t ++ [p]) t2).map (gM g) = _
    unfold va_up
    by_cases e : t2 = t
    · rw [if_pos e, if_pos (by rw [e]), List.map_append]; rfl
    · rw [if_neg e, if_neg (by simp [e])]; rfl
  · obtain ⟨a1, a2, a3⟩ := Cc_fs q h.2.2.2.2.2
    refine ⟨a1, a2, fun u p2 hu hp2 => ?_⟩
    have hm : p2 ∈ va_up (z_Q S) t (z_Q S t ++ [p]) u := hp2
    unfold va_up at hm
    by_cases e : u = t
    · rw [if_pos e] at hm
      rcases List.mem_append.mp hm with z | z
      · exact a3 t p2 ht z
      · have e2 : p2 = p := by simpa using z
        rw [e2, q.I (by omega)]; exact h71
    · rw [if_neg e] at hm; exact a3 u p2 hu hm
-- taking
theorem take_lose {σ : xS} {A : Nat × Nat → Nat} {V : Nat × Nat → Prop} {L : Nat × Nat → List Nat} {i : Nat × Nat} {b : Nat} {l : List Nat} (h : zLs σ A V L) (hi : V i) (e : L i = b :: l) : ∀ j, V j → b ∉ zup L i l j := by
  obtain ⟨h1, h2, h3, h4⟩ := h
  intro j hj
  rw [zup_eq]
  have hn := (h3 i hi).1
  rw [e] at hn
  by_cases z : j = i
  · rw [if_pos z]; exact (List.nodup_cons.mp hn).1
  · rw [if_neg z]
    exact fun y => z (h4 j i b hj hi y (by rw [e]; exact List.mem_cons_self))
theorem c_takeW {x : Nat} {σ : xS} {S : zS} {g : zG} {B : Nat → List Nat} {w : Nat} {Q : Option Nat → xS → Prop} (h : RC x σ S g B) (hw : w < 16) (k0 : z_W S w = [] → Q none σ) (k1 : ∀ b bs l ls σ2, z_W S w = l :: ls → zFs σ σ2 → xh_k σ b = 2 → b < xh_n σ → RC x σ2 (zs_W S w ls) g (va_up B w bs) → lose (zs_W S w ls) g (va_up B w bs) b → zLt σ2 S g b l → Q (some b) σ2) : wp_X0_take σ (x + 7 + 2 * w) Q := by
  have hF := h.2.2.2.2.2.1 w hw
  refine c_take (A := lA x g) (V := lV S) (L := lL S g B) (i := (1, w)) h.2.2.2.2.1 (lV_1 hw) (fun e => ?_) (fun b bs σ2 e q1 q2 q3 hls => ?_)
  · rw [lL_1] at e
    rw [e] at hF
    cases hW : z_W S w with
    | nil => exact k0 hW
    | cons l ls => rw [hW] at hF; exact absurd hF id
  · have e1 : B w = b :: bs := e
    have tl := take_lose h.2.2.2.2.1 (lV_1 hw) e
    obtain ⟨hnd, hkb⟩ := h.2.2.2.2.1.2.2.1 (1, w) (lV_1 hw)
    have hb := hkb b (by rw [e]; exact List.mem_cons_self)
    rw [e1] at hF
    cases hW : z_W S w with
    | nil => rw [hW] at hF; exact absurd hF id
    | cons l ls =>
      rw [hW] at hF
      have q : zFs σ σ2 := ⟨q1, q2, q3⟩
      have eL : ∀ j, lV S j → lL (zs_W S w ls) g (va_up B w bs) j = zup (lL S g B) (1, w) bs j := by
        refine lV_ind ?_ (fun v hv => ?_) (fun t ht => ?_) (fun p hp => ?_)
        · rw [zup_eq, if_neg (by simp)]; rfl
        · rw [zup_eq]
          show va_up B w bs v = _
          unfold va_up
          by_cases e : v = w
          · rw [if_pos e, if_pos (by rw [e])]
          · rw [if_neg e, if_neg (by simp [e])]; rfl
        · rw [zup_eq, if_neg (by simp)]; rfl
        · rw [zup_eq, if_neg (by simp)]; rfl
      refine k1 b bs l ls σ2 hW q hb.1 hb.2 (RC_line h q rfl rfl rfl rfl hls eL ?_) (fun j hj => by rw [eL j hj]; exact tl j hj) (Lt_fs q hF.1)
      obtain ⟨a1, a2, a3⟩ := Cc_fs q h.2.2.2.2.2
      refine ⟨fun v hv => ?_, a2, a3⟩
      rw [wW_set]
      show zF2 (zLt σ2 S g) (va_up B w bs v) _
      unfold va_up
      by_cases e : v = w
      · subst e
        rw [if_pos rfl, if_pos rfl]
        have := a1 v hv
        rw [e1, hW] at this
        exact this.2
      · rw [if_neg e, if_neg e]; exact a1 v hv
theorem c_takeD {x : Nat} {σ : xS} {S : zS} {g : zG} {B : Nat → List Nat} {Q : Option Nat → xS → Prop} (h : RC x σ S g B) (k0 : z_D S = [] → Q none σ) (k1 : ∀ d ds σ2, z_D S = d :: ds → zFs σ σ2 → RC x σ2 (zs_D S ds) g B → lose (zs_D S ds) g B (gM g d.1) → xh_I σ2 71 (gM g d.1) = 1 → xh_I σ2 72 (gM g d.1) = d.2.1 → xh_I σ2 73 (gM g d.1) = d.2.2 → Q (some (gM g d.1)) σ2) : wp_X0_take σ (x + 5) Q := by
  refine c_take (A := lA x g) (V := lV S) (L := lL S g B) (i := (0, 0)) h.2.2.2.2.1 lV_0 (fun e => ?_) (fun b bs σ2 e q1 q2 q3 hls => ?_)
  · rw [lL_0, List.map_eq_nil_iff] at e
    exact k0 e
  · have tl := take_lose h.2.2.2.2.1 lV_0 e
    rw [lL_0] at e
    cases hD : z_D S with
    | nil => rw [hD] at e; cases e
    | cons d ds =>
      rw [hD, List.map_cons] at e
      have e1 : gM g d.1 = b := (List.cons.inj e).1
      have e2 : ds.map (fun d => gM g d.1) = bs := (List.cons.inj e).2
      have q : zFs σ σ2 := ⟨q1, q2, q3⟩
      have eL : ∀ j, lV S j → lL (zs_D S ds) g B j = zup (lL S g B) (0, 0) bs j := by
        refine lV_ind ?_ (fun v hv => ?_) (fun t ht => ?_) (fun p hp => ?_)
        · rw [zup_eq, if_pos rfl]; exact e2
        · rw [zup_eq, if_neg (by simp)]; rfl
        · rw [zup_eq, if_neg (by simp)]; rfl
        · rw [zup_eq, if_neg (by simp)]; rfl
      obtain ⟨a1, a2, a3⟩ := Cc_fs q h.2.2.2.2.2
      have hd : d ∈ z_D S := by rw [hD]; exact List.mem_cons_self
      rw [← e1]
      rw [← e1] at tl
      exact k1 d ds σ2 hD q (RC_line h q rfl rfl rfl rfl hls eL ⟨a1, fun d2 hd2 => a2 d2 (by rw [hD]; exact List.mem_cons_of_mem _ hd2), a3⟩) (fun j hj => by rw [eL j hj]; exact tl j hj) (a2 d hd).1 (a2 d hd).2.1 (a2 d hd).2.2
theorem c_takeH {x : Nat} {σ : xS} {S : zS} {g : zG} {B : Nat → List Nat} {t : Nat} {Q : Option Nat → xS → Prop} (h : RC x σ S g B) (ht : t < z_N S 0) (k0 : z_H S t = [] → Q none σ) (k1 : ∀ p l σ2, z_H S t = p :: l → zFs σ σ2 → RC x σ2 (zs_H S t l) g B → lose (zs_H S t l) g B (gM g p) → Q (some (gM g p)) σ2) : wp_X0_take σ (gT g t + 1) Q := by
  refine c_take (A := lA x g) (V := lV S) (L := lL S g B) (i := (2, t)) h.2.2.2.2.1 (lV_2 ht) (fun e => ?_) (fun b bs σ2 e q1 q2 q3 hls => ?_)
  · rw [lL_2, List.map_eq_nil_iff] at e
    exact k0 e
  · have tl := take_lose h.2.2.2.2.1 (lV_2 ht) e
    rw [lL_2] at e
    cases hD : z_H S t with
    | nil => rw [hD] at e; cases e
    | cons p l =>
      rw [hD, List.map_cons] at e
      have e1 : gM g p = b := (List.cons.inj e).1
      have e2 : l.map (gM g) = bs := (List.cons.inj e).2
      have q : zFs σ σ2 := ⟨q1, q2, q3⟩
      have eL : ∀ j, lV S j → lL (zs_H S t l) g B j = zup (lL S g B) (2, t) bs j := by
        refine lV_ind ?_ (fun v hv => ?_) (fun t2 ht2 => ?_) (fun p hp => ?_)
        · rw [zup_eq, if_neg (by simp)]; rfl
        · rw [zup_eq, if_neg (by simp)]; rfl
        · rw [zup_eq, lL_2]
          show (va_up (z_H S) t l t2).map (gM g) = _
          unfold va_up
          by_cases e : t2 = t
          · rw [if_pos e, if_pos (by rw [e])]; exact e2
          · rw [if_neg e, if_neg (by simp [e])]; rfl
        · rw [zup_eq, if_neg (by simp)]; rfl
      rw [← e1]
      rw [← e1] at tl
      exact k1 p l σ2 hD q (RC_line h q rfl rfl rfl rfl hls eL (Cc_fs q h.2.2.2.2.2)) (fun j hj => by rw [eL j hj]; exact tl j hj)
theorem c_takeQ {x : Nat} {σ : xS} {S : zS} {g : zG} {B : Nat → List Nat} {t : Nat} {Q : Option Nat → xS → Prop} (h : RC x σ S g B) (ht : t < z_N S 1) (k0 : z_Q S t = [] → Q none σ) (k1 : ∀ p l σ2, z_Q S t = p :: l → zFs σ σ2 → RC x σ2 (zs_Q S t l) g B → lose (zs_Q S t l) g B (gM g p) → xh_I σ2 71 (gM g p) = 0 → Q (some (gM g p)) σ2) : wp_X0_take σ (gM g t + 2) Q := by
  refine c_take (A := lA x g) (V := lV S) (L := lL S g B) (i := (3, t)) h.2.2.2.2.1 (lV_3 ht) (fun e => ?_) (fun b bs σ2 e q1 q2 q3 hls => ?_)
  · rw [lL_3, List.map_eq_nil_iff] at e
    exact k0 e
  · have tl := take_lose h.2.2.2.2.1 (lV_3 ht) e
    rw [lL_3] at e
    cases hD : z_Q S t with
    | nil => rw [hD] at e; cases e
    | cons p l =>
      rw [hD, List.map_cons] at e
      have e1 : gM g p = b := (List.cons.inj e).1
      have e2 : l.map (gM g) = bs := (List.cons.inj e).2
      have q : zFs σ σ2 := ⟨q1, q2, q3⟩
      have eL : ∀ j, lV S j → lL (zs_Q S t l) g B j = zup (lL S g B) (3, t) bs j := by
        refine lV_ind ?_ (fun v hv => ?_) (fun t2 ht2 => ?_) (fun t2 ht2 => ?_)
        · rw [zup_eq, if_neg (by simp)]; rfl
        · rw [zup_eq, if_neg (by simp)]; rfl
        · rw [zup_eq, if_neg (by simp)]; rfl
        · rw [zup_eq, lL_3]
          show (va_up (z_Q S) t l t2).map (gM g) = _
          unfold va_up
          by_cases e : t2 = t
          · rw [if_pos e, if_pos (by rw [e])]; exact e2
          · rw [if_neg e, if_neg (by simp [e])]; rfl
      obtain ⟨a1, a2, a3⟩ := Cc_fs q h.2.2.2.2.2
      rw [← e1]
      rw [← e1] at tl
      refine k1 p l σ2 hD q (RC_line h q rfl rfl rfl rfl hls eL ⟨a1, a2, fun u p2 hu hp2 => ?_⟩) (fun j hj => by rw [eL j hj]; exact tl j hj) (a3 t p ht (by rw [hD]; exact List.mem_cons_self))
      have hm : p2 ∈ va_up (z_Q S) t l u := hp2
      unfold va_up at hm
      by_cases e : u = t
      · rw [if_pos e] at hm; exact a3 t p2 ht (by rw [hD]; exact List.mem_cons_of_mem _ hm)
      · rw [if_neg e] at hm; exact a3 u p2 hu hm
theorem F2_mem {P : Nat → zL → Prop} : ∀ (B : List Nat) (L : List zL) (b : Nat), zF2 P B L → b ∈ B → ∃ l, l ∈ L ∧ P b l := by
  intro B
  induction B with
  | nil => intro L b _ hb; exact absurd hb (by simp)
  | cons c B ih =>
    intro L b h hb
    cases L with
    | nil => exact absurd h id
    | cons a L =>
      rcases List.mem_cons.mp hb with z | z
      · subst z; exact ⟨a, List.mem_cons_self, h.1⟩
      · obtain ⟨l, hl, hp⟩ := ih L b h.2 z
        exact ⟨l, List.mem_cons_of_mem _ hl, hp⟩
/-- a message that is nowhere is in no line -/
theorem lose_of {x : Nat} {σ : xS} {S : zS} {g : zG} {B : Nat → List Nat} {p : Nat} (h : RC x σ S g B) (hI : zI S) (hf : zFree S p) (hH : ∀ t, p ∉ z_H S t) (hQ : ∀ t, p ∉ z_Q S t) : lose S g B (gM g p) := by
  have inj := h.2.2.2.1.2.2.2.2.2.2.1
  refine lV_ind (fun z => ?_) (fun w hw z => ?_) (fun t ht z => ?_) (fun q hq z => ?_)
  · rw [lL_0, List.mem_map] at z
    obtain ⟨d, hd, e⟩ := z
    have := inj d.1 p (hI.2.2.2.1.1 d hd).1 hf.1 e
    exact hf.2.2 (by rw [← this]; exact List.mem_map.mpr ⟨d, hd, rfl⟩)
  · rw [lL_1] at z
    obtain ⟨l, hl, hbl⟩ := F2_mem _ _ _ (h.2.2.2.2.2.1 w hw) z
    have hok := (hI.2.1 w l hl).2
    have key : ¬ l.1 = 2 → gM g p = gM g l.2.1 → False := fun n2 e => by
      have := inj p l.2.1 hf.1 (zLok_lt hok n2) e
      exact hf.2.1 w (mem_wp.mpr ⟨l, hl, n2, this.symm⟩)
    rcases hbl with ⟨l1, l2, -⟩ | ⟨l1, l2, -⟩ | ⟨l1, -, l3, -⟩
    · exact key (by omega) l2
    · exact key (by omega) l2
    · exact l3 p hf.1 rfl
  · rw [lL_2, List.mem_map] at z
    obtain ⟨q, hq, e⟩ := z
    have := inj q p (hI.2.2.2.2.1 t q hq).2.1 hf.1 e
    exact hH t (by rw [← this]; exact hq)
  · rw [lL_3, List.mem_map] at z
    obtain ⟨q2, hq2, e⟩ := z
    have := inj q2 p (hI.2.2.2.2.2.2.1 q q2 hq2).2.1 hf.1 e
    exact hQ q (by rw [← this]; exact hq2)
-- stores of references, of the turns, of the trace; of messages that are no promise's
theorem R_70 {x : Nat} {σ σ2 : xS} {S S2 : zS} {g : zG} {B : Nat → List Nat} {b : Nat} {v : Option Nat} (h : RC x σ S g B) (e : σ2 = xs_R σ 70 b v) (hl : lose S g B b) (hF : ∀ k, ¬ k = 20 → z_F S2 k = z_F S k) (hN : z_N S2 = z_N S) (hu : z_u S2 = z_u S) (hr : z_r S2 = z_r S) (hW : z_W S2 = z_W S) (hH : z_H S2 = z_H S) (hQ : z_Q S2 = z_Q S) (hD : z_D S2 = z_D S) (hp : ∀ p, p < z_N S 1 → xh_R σ2 70 (gM g p) = zO g (z_F S2 20 p)) : RC x σ2 S2 g B := by
  obtain ⟨c1, c2, c3, c4, c5, c6⟩ := h
  have hR : ∀ f a, ¬ f = 70 → xh_R σ2 f a = xh_R σ f a := fun f a z => by rw [e, xR2, if_neg (fun y => z y.1)]
  have hI : xh_I σ2 = xh_I σ := by rw [e]; rfl
  have hK : xh_k σ2 = xh_k σ := by rw [e]; rfl
  have hn : xh_n σ2 = xh_n σ := by rw [e]; rfl
  have hm : xh_m σ2 = xh_m σ := by rw [e]; rfl
  have hq : xh_q σ2 = xh_q σ := by rw [e]; rfl
  have hz : xh_z σ2 = xh_z σ := by rw [e]; rfl
  have hL : xh_L σ2 = xh_L σ := by rw [e]; rfl
  have hps : z_ps S2 = z_ps S := ps_congr (by rw [hN]) (fun w => by rw [hF 26 (by omega)])
  refine ⟨?_, fun k i hk hi => ?_, ?_, ?_, ?_, ?_⟩
  · unfold zC1 xw6 at c1 ⊢
    rw [hK, hz, hL, hI, hR _ _ (by omega), hR _ _ (by omega), hR _ _ (by omega), hR _ _ (by omega), hR _ _ (by omega), hN, hu, hr]
    exact c1
  · have hk20 : ¬ k = 20 := by intro z; subst z; exact absurd hk (by decide)
    rw [hI, hF k hk20]
    refine c2 k i hk ?_
    unfold kb at hi ⊢; rw [hN] at hi; exact hi
  · obtain ⟨a1, a2, a3, a4⟩ := c3
    unfold zC3
    rw [hN, hq, hI, hF 4 (by omega), hF 17 (by omega), hF 19 (by omega), hF 23 (by omega), hF 25 (by omega)]
    refine ⟨fun t ht => ?_, fun p hp2 => ?_, fun w hw => ?_, fun w hw => ?_⟩
    · rw [hR _ _ (by omega), hR _ _ (by omega)]; exact a1 t ht
    · rw [hR 131 _ (by omega), hR 132 _ (by omega), hR 64 _ (by omega), hR 67 _ (by omega)]
      obtain ⟨b1, b2, b3, b4, b5, b6, b7⟩ := a2 p hp2
      exact ⟨b1, b2, b3, b4, b5, hp p hp2, b7⟩
    · rw [hR _ _ (by omega), hR _ _ (by omega)]; exact a3 w hw
    · rw [hR _ _ (by omega)]; exact a4 w hw
  · unfold zC4 z_used at c4 ⊢
    rw [hK, hn, hm, hN, hps]; exact c4
  · have c5b : zLs σ2 (lA x g) (lV S) (lL S g B) := zLs_fr c5 hK hn (fun a => by rw [hI]) (fun f a hf => hR _ _ (by omega))
    refine zLs_congr c5b (fun j hj => ?_) (fun _ _ => rfl) (fun j _ => ?_)
    · unfold lV at hj ⊢; rw [hN] at hj; exact hj
    · unfold lL; rw [hD, hH, hQ]
  · obtain ⟨a1, a2, a3⟩ := c6
    have hlP := lose_P hl
    refine ⟨fun w hw => ?_, ?_, ?_⟩
    · rw [hW]
      refine F2_mono _ _ (fun c hc l hl hbl => ?_) (a1 w hw)
      have hne := hlP.1 w hw c hc
      unfold zLt at hbl ⊢
      rw [hI, hN, hR 68 _ (by omega), hR 69 _ (by omega), hR 64 _ (by omega), e, xR2, if_neg (fun z => hne z.2)]
      exact hbl
    · rw [hI, hD]; exact a2
    · rw [hI, hN, hQ]; exact a3
theorem R_u {x : Nat} {σ σ2 : xS} {S : zS} {g : zG} {B : Nat → List Nat} {v : Int32} (h : RC x σ S g B) (e : σ2 = xs_I σ 392 x v) : RC x σ2 (zs_u S v) g B := by
  obtain ⟨c1, c2, c3, c4, c5, c6⟩ := h
  have hI : ∀ f a, ¬ f = 392 → xh_I σ2 f a = xh_I σ f a := fun f a z => by rw [e, xI2, if_neg (fun y => z y.1)]
  refine ⟨?_, fun k i hk hi => ?_, ?_, ?_, ?_, ?_⟩
  · obtain ⟨a1, a2, a3, a4, a5, a6⟩ := c1
    exact ⟨by rw [e]; exact a1, by rw [hI _ _ (by omega)]; exact a2, by rw [hI _ _ (by omega)]; exact a3, by rw [hI _ _ (by omega)]; exact a4, by rw [e, xI2, if_pos ⟨rfl, rfl⟩]; rfl, by rw [e]; exact a6⟩
  · have := kf_rng hk
    rw [hI _ _ (by omega)]; exact c2 k i hk hi
  · obtain ⟨a1, a2, a3, a4⟩ := c3
    refine ⟨fun t ht => ?_, fun p hp => ?_, fun w hw => ?_, fun w hw => ?_⟩
    · rw [hI _ _ (by omega), e]; exact a1 t ht
    · rw [hI _ _ (by omega), e]; exact a2 p hp
    · rw [e]; exact a3 w hw
    · rw [hI _ _ (by omega), hI _ _ (by omega), e]; exact a4 w hw
  · rw [e]; exact c4
  · exact zLs_fr c5 (by rw [e]; rfl) (by rw [e]; rfl) (fun a => hI _ _ (by omega)) (fun f a _ => by rw [e]; rfl)
  · obtain ⟨a1, a2, a3⟩ := c6
    have eL : zLt σ2 (zs_u S v) g = zLt σ S g := by
      funext b l
      unfold zLt
      rw [hI _ _ (by omega), hI _ _ (by omega), hI _ _ (by omega), hI _ _ (by omega), hI _ _ (by omega), e]; rfl
    refine ⟨fun w hw => by rw [eL]; exact a1 w hw, fun d hd => ?_, fun q p hq hp => ?_⟩
    · rw [hI _ _ (by omega), hI _ _ (by omega), hI _ _ (by omega)]; exact a2 d hd
    · rw [hI _ _ (by omega)]; exact a3 q p hq hp
theorem R_r {x : Nat} {σ σ2 : xS} {S : zS} {g : zG} {B : Nat → List Nat} {v : Int64} (h : RC x σ S g B) (e : σ2 = xs_L σ 393 x v) : RC x σ2 (zs_r S v) g B := by
  obtain ⟨⟨a1, a2, a3, a4, a5, a6⟩, c2, c3, c4, c5, c6⟩ := h
  subst e
  refine ⟨⟨a1, a2, a3, a4, a5, ?_⟩, c2, c3, c4, zLs_fr c5 rfl rfl (fun a => rfl) (fun f a _ => rfl), c6⟩
  show xu_2 (xh_L σ) 393 x v 393 x = v
  unfold xu_2
  simp
/-- place and letters of a message that is no promise's -/
theorem R_w {x : Nat} {σ σ2 : xS} {S : zS} {g : zG} {B : Nat → List Nat} {f b : Nat} {v : Int32} (h : RC x σ S g B) (e : σ2 = xs_I σ f b v) (hf : f = 74 ∨ f = 75) (hb : ∀ p, p < z_N S 1 → b ≠ gM g p) : RC x σ2 S g B := by
  obtain ⟨c1, c2, c3, c4, c5, c6⟩ := h
  have hI : ∀ f2 a, ¬ f2 = f → xh_I σ2 f2 a = xh_I σ f2 a := fun f2 a z => by rw [e, xI2, if_neg (fun y => z y.1)]
  refine ⟨?_, fun k i hk hi => ?_, ?_, ?_, ?_, ?_⟩
  · obtain ⟨a1, a2, a3, a4, a5, a6⟩ := c1
    exact ⟨by rw [e]; exact a1, by rw [hI _ _ (by omega)]; exact a2, by rw [hI _ _ (by omega)]; exact a3, by rw [hI _ _ (by omega)]; exact a4, by rw [hI _ _ (by omega)]; exact a5, by rw [e]; exact a6⟩
  · rw [e, xI2]
    by_cases y : kf k = f ∧ ka x g k i = b
    · exfalso
      have h15 : k = 15 ∨ k = 16 := by
        rcases hf with rfl | rfl
        · exact Or.inr (kf_inj hk (k2 := 16) (by decide) (by rw [y.1]; decide))
        · exact Or.inl (kf_inj hk (k2 := 15) (by decide) (by rw [y.1]; decide))
      have hka : ka x g k i = gM g i := by rcases h15 with rfl | rfl <;> rfl
      have hi2 : i < z_N S 1 := by rcases h15 with rfl | rfl <;> exact hi
      exact hb i hi2 (by rw [← y.2, hka])
    · rw [if_neg y]; exact c2 k i hk hi
  · obtain ⟨a1, a2, a3, a4⟩ := c3
    refine ⟨fun t ht => ?_, fun p hp => ?_, fun w hw => ?_, fun w hw => ?_⟩
    · rw [hI _ _ (by omega), e]; exact a1 t ht
    · rw [hI _ _ (by omega), e]; exact a2 p hp
    · rw [e]; exact a3 w hw
    · rw [hI _ _ (by omega), hI _ _ (by omega), e]; exact a4 w hw
  · rw [e]; exact c4
  · exact zLs_fr c5 (by rw [e]; rfl) (by rw [e]; rfl) (fun a => hI _ _ (by omega)) (fun f a _ => by rw [e]; rfl)
  · obtain ⟨a1, a2, a3⟩ := c6
    have eL : zLt σ2 S g = zLt σ S g := by
      funext b l
      unfold zLt
      rw [hI _ _ (by omega), hI _ _ (by omega), hI _ _ (by omega), hI _ _ (by omega), hI _ _ (by omega), e]; rfl
    refine ⟨fun w hw => by rw [eL]; exact a1 w hw, fun d hd => ?_, fun q p hq hp => ?_⟩
    · rw [hI _ _ (by omega), hI _ _ (by omega), hI _ _ (by omega)]; exact a2 d hd
    · rw [hI _ _ (by omega)]; exact a3 q p hq hp
