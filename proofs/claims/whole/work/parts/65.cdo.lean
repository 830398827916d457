/-! The class does what is to be done -/
theorem pws_snoc {p h : Nat} {st v : Int32} {S : zS} {n : Nat} : (List.range (n + 1)).foldl (fun S w => if z_F S 23 w = nI p ∧ z_F S 24 w = nI h ∧ z_F S 26 w = 0 then z_pw S w st v else S) S = (let T := (List.range n).foldl (fun S w => if z_F S 23 w = nI p ∧ z_F S 24 w = nI h ∧ z_F S 26 w = 0 then z_pw S w st v else S) S; if z_F T 23 n = nI p ∧ z_F T 24 n = nI h ∧ z_F T 26 n = 0 then z_pw T n st v else T) := by
  rw [List.range_succ, List.foldl_append]; rfl
theorem pw_26 {S : zS} {w u : Nat} {st v : Int32} (h : ¬ u = w) : z_F (z_pw S w st v) 26 u = z_F S 26 u := by
  unfold z_pw
  have : ∀ (T : zS) (a b : Nat) (n : Int32), z_F (z_sw T a b n) = z_F T := by
    intro T a b n
    unfold z_sw
    split <;> rfl
  rw [this, zF_eq, if_neg (fun z => h z.2)]
theorem c_postWhens {x : Nat} {g : zG} {p h : Nat} {Q : xS → Prop} {σ : xS} {S : zS} {B : Nat → List Nat} (hR : RC x σ S g B) (hI : zI S) (hp : p < z_N S 1) (hh : h < 4) (hst : ¬ z_st S p (nI h) = 0) (h26 : ∀ w, w < z_N S 2 → z_F S 23 w = nI p → z_F S 24 w = nI h → z_F S 26 w = 0) (k : ∀ σ2 B2, RC x σ2 (z_pws S p h (z_st S p (nI h)) (z_vl S p (nI h))) g B2 → Q σ2) : wp_X6_postWhens σ x (gM g p + 1) (nI h) Q := by
  have b := hI.1.1
  let st := z_st S p (nI h)
  let v := z_vl S p (nI h)
  let T : Nat → zS := fun n => (List.range n).foldl (fun S w => if z_F S 23 w = nI p ∧ z_F S 24 w = nI h ∧ z_F S 26 w = 0 then z_pw S w st v else S) S
  have hT : T (z_N S 2) = z_pws S p h st v := rfl
  have key : ∀ (n i : Nat) (σ : xS) (B : Nat → List Nat), i ≤ z_N S 2 → z_N S 2 < i + n → RC x σ (T i) g B → zI (T i) → zFw S (T i) → (∀ w, i ≤ w → z_F (T i) 26 w = z_F S 26 w) → wb_X6_postWhens_2 Q x n σ (gM g p + 1) (nI h) (nI i) := by
    intro n
    induction n with
    | zero => intro i σ B h1 h2; omega
    | succ n ih =>
      intro i σ B hi1 hi2 hR hI fw h26i
      have e23 : z_F (T i) 23 = z_F S 23 := fw.2.1 23 (by omega)
      have e24 : z_F (T i) 24 = z_F S 24 := fw.2.1 24 (by omega)
      have e10 : z_F (T i) 10 = z_F S 10 := fw.2.1 10 (by omega)
      have eN : z_N (T i) = z_N S := fw.1
      have est : z_st (T i) p (nI h) = st := by
        show z_st (T i) p (nI h) = z_st S p (nI h)
        unfold z_st; rw [e10, fw.2.1 11 (by omega), fw.2.1 13 (by omega)]
      have evl : z_vl (T i) p (nI h) = v := by
        show z_vl (T i) p (nI h) = z_vl S p (nI h)
        unfold z_vl; rw [e10, fw.2.1 12 (by omega), fw.2.1 14 (by omega)]
      unfold wb_X6_postWhens_2
      rw [hR.1.2.2.2.1, eN, nle (by omega) (by omega), show (40 : Int32) = nI 40 from rfl, nle (by omega) (by omega)]
      refine ⟨fun z => ?_, fun z => ⟨fun y => ?_, fun y => ⟨vpI (by omega), ?_⟩⟩⟩
      · have : i = z_N S 2 := by omega
        subst this
        exact k σ B hR
      · omega
      · have hi3 : i < z_N (T i) 2 := by rw [eN]; omega
        obtain ⟨a1, a2, a3⟩ := hR.2.2.1.2.2.1 i hi3
        rw [cl40 (by omega), a1]
        refine ⟨fun z => (by cases z), fun a5 z => ?_⟩
        cases z
        obtain ⟨p2, h2, t, q1, q2, q3, q4, q5, q6, q7, q8⟩ := hI.1.2.2.2.1 i hi3
        rw [q2, cl40 (by rw [eN] at q1; omega)] at a2
        have h257 : xh_I σ 257 (gW g i) = nI h2 := (rI hR 24 i (by decide) hi3 : xh_I σ 257 (gW g i) = z_F (T i) 24 i).trans q4
        have eT : T (i + 1) = if z_F (T i) 23 i = nI p ∧ z_F (T i) 24 i = nI h ∧ z_F (T i) 26 i = 0 then z_pw (T i) i st v else T i := pws_snoc
        have no : ¬ (z_F (T i) 23 i = nI p ∧ z_F (T i) 24 i = nI h) → wb_X6_postWhens_56 Q (fun σ l1 l2 l3 => wb_X6_postWhens_2 Q x n σ l1 l2 l3) σ x (gM g p + 1) (nI h) (nI i) := by
          intro hno
          rw [if_neg (fun y => hno ⟨y.1, y.2.1⟩)] at eT
          unfold wb_X6_postWhens_56
          rw [nI_1]
          exact ih (i + 1) σ B (by omega) (by omega) (by rw [eT]; exact hR) (by rw [eT]; exact hI) (by rw [eT]; exact fw) (fun w hw => by rw [eT]; exact h26i w (by omega))
        refine ⟨(hR.2.2.2.1.2.2.1 i hi3).1, gM g p2 + 1, a2, fun e => ?_, fun e => no (fun y => e ?_)⟩
        · have ep : p2 = p := by
            have e1 : gM g p2 + 1 = gM g p + 1 := Option.some.inj e
            exact hR.2.2.2.1.2.2.2.2.2.2.1 p2 p q1 (by rw [eN]; exact hp) (by omega)
          subst ep
          rw [h257, nI_eq (by omega) (by omega)]
          refine ⟨fun eh => ?_, fun nh => no (fun y => nh ?_)⟩
          · subst eh
            have h26z : z_F (T i) 26 i = 0 := by
              rw [h26i i (Nat.le_refl _)]
              exact h26 i (by omega) (by rw [← e23]; exact q2) (by rw [← e24]; exact q4)
            rw [if_pos ⟨q2, q4, h26z⟩] at eT
            refine c_postWhen hR hI hi3 h26z q2 q1 q4 q3 (by rw [est]; exact hst) (fun σ2 B2 R2 => ?_)
            rw [est, evl] at R2
            unfold wb_X6_postWhens_56
            rw [nI_1]
            refine ih (i + 1) σ2 B2 (by omega) (by omega) (by rw [eT]; exact R2) ?_ ?_ (fun w hw => ?_)
            · rw [eT]
              exact I_pw hI hi3 h26z q2 q1 q4 q3 (st_ne hI q1 q3 (by rw [est]; exact hst))
            · rw [eT]; exact fw.tr zFw_pw
            · rw [eT, pw_26 (by omega)]; exact h26i w (by omega)
          · rw [q4] at y
            exact (nI_eq (by omega) (by omega)).mp y.2
        · rw [q2] at y
          rw [(nI_eq (by rw [eN] at q1; omega) (by omega)).mp y.1]
  refine ⟨z_N S 2 + 1, ?_⟩
  have := key (z_N S 2 + 1) 0 σ B (by omega) (by omega) hR hI zFw.rf (fun _ _ => rfl)
  rw [nI_0] at this
  exact this
-- 26 is not touched where no WHEN is told
theorem f26_ansH {S : zS} {h p : Nat} {st v : Int32} : z_F (z_ansH S h p st v) 26 = z_F S 26 := by
  unfold z_ansH
  split
  · funext j
    show z_F (zs_F S 15 p (z_F S 15 p + 1)) 26 j = _
    exact zF_ne (by omega)
  · funext j
    show z_F (zs_F S 15 p (z_F S 15 p + 1)) 26 j = _
    exact zF_ne (by omega)
theorem f26_settle {S : zS} {p h : Nat} {st v : Int32} : z_F (z_settle S p h st v) 26 = z_F S 26 := by
  have e : z_F (z_w S p 0) 26 = z_F S 26 := by
    funext j
    show xu_2 (z_F S) 16 p 0 26 j = _
    unfold xu_2
    rw [if_neg (by omega)]
  unfold z_settle
  split
  · exact e
  · rw [f26_ansH]; exact e
theorem f26_unmove {S : zS} {p : Nat} : z_F (z_unmove S p) 26 = z_F S 26 := by
  unfold z_unmove
  split
  · rfl
  · funext j; rw [zF_ne (by omega), zF_ne (by omega)]
theorem f26_send {S : zS} {p h g : Nat} {th asked : Option Nat} : z_F (z_send S p h g th asked) 26 = z_F S 26 := by
  unfold z_send
  split
  · funext j
    show xu_2 (z_F (zs_F S 15 p (z_F S 15 p + 1))) 16 p 3 26 j = _
    unfold xu_2
    rw [if_neg (by omega)]
    exact zF_ne (by omega)
  · unfold z_lose
    rw [f26_settle, f26_unmove]
    funext j; exact zF_ne (by omega)
theorem f26_go {S : zS} {p h : Nat} {st v : Int32} : z_F (z_go S p h st v) 26 = z_F S 26 := by
  unfold z_go
  split
  · exact f26_send
  · exact f26_settle
theorem f26_pws {S : zS} {p h w : Nat} {st v : Int32} (hw : ¬ z_F S 24 w = nI h) : z_F (z_pws S p h st v) 26 w = z_F S 26 w := by
  unfold z_pws
  have : ∀ (l : List Nat), (fun T => zFw S T ∧ z_F T 26 w = z_F S 26 w) (l.foldl (fun S w => if z_F S 23 w = nI p ∧ z_F S 24 w = nI h ∧ z_F S 26 w = 0 then z_pw S w st v else S) S) := by
    intro l
    refine fold_ind (P := fun T => zFw S T ∧ z_F T 26 w = z_F S 26 w) _ _ ⟨zFw.rf, rfl⟩ (fun T i _ hT => ?_)
    split
    · rename_i hc
      refine ⟨hT.1.tr zFw_pw, ?_⟩
      rw [pw_26]
      · exact hT.2
      · intro z
        subst z
        rw [hT.1.2.1 24 (by omega)] at hc
        exact hw hc.2.1
    · exact hT
  exact (this _).2
theorem c_tellAsker {x : Nat} {σ : xS} {S : zS} {g : zG} {B : Nat → List Nat} {p : Nat} {st v : Int32} {Q : xS → Prop} (hR : RC x σ S g B) (hI : zI S) (hf : zFree S p) (h11 : ¬ z_F S 11 p = 0) (h13 : z_F S 13 p = 0) (hne : ¬ z_ak S p = z_hm S p) (hz : zval S st v) (h72 : xh_I σ 72 (gM g p) = st) (h73 : xh_I σ 73 (gM g p) = v) (k : ∀ σ2 B2, RC x σ2 (z_arr S p st v) g B2 → Q σ2) : wp_X6_tellAsker σ x (gM g p + 1) (gM g p) Q := by
  have hp := hf.1
  obtain ⟨⟨ha1, ha2⟩, ⟨hm1, hm2⟩, -⟩ := hI.1.2.2.1 p hp
  obtain ⟨m1, m2, m3, m4, m5⟩ := hR.2.2.2.1.2.1 p hp
  unfold wp_X6_tellAsker
  rw [h72]
  refine ⟨m1, m2, fun σ1 e1 => ?_⟩
  have h73b : xh_I σ1 73 (gM g p) = v := by rw [e1, xI2, if_neg (by omega)]; exact h73
  rw [h73b]
  intro σ2 e2
  have R1 : RC x σ1 (zs_F S 13 p st) g B := R_F hR (k := 13) (i := p) e1 (by decide) hp
  have R2 : RC x σ2 (zs_F (zs_F S 13 p st) 14 p v) g B := R_F R1 (k := 14) (i := p) e2 (by decide) hp
  have h9 : xh_I σ2 129 (gM g p + 1) = z_F S 9 p := by
    have : xh_I σ2 129 (gM g p + 1) = z_F (zs_F (zs_F S 13 p st) 14 p v) 9 p := rI R2 9 p (by decide) hp
    rw [this, zF_ne (by omega), zF_ne (by omega)]
  rw [h9, ha1]
  have hI1 : zI (zs_F S 13 p st) := I_13 hI hf h11 (zval_ne hz)
  have hI2 : zI (zs_F (zs_F S 13 p st) 14 p v) := I_14 hI1
  have e10 : z_F (zs_F (zs_F S 13 p st) 14 p v) 10 p = z_F S 10 p := by rw [zF_ne (by omega), zF_ne (by omega)]
  have n10 : ¬ z_F S 10 p = nI (z_ak S p) := by
    rw [hm1, nI_eq (by omega) (by omega)]; exact fun z => hne z.symm
  have est : z_st (zs_F (zs_F S 13 p st) 14 p v) p (nI (z_ak S p)) = st := by
    unfold z_st
    rw [e10, if_neg n10, zF_ne (by omega), zF_eq, if_pos ⟨rfl, rfl⟩]
  have evl : z_vl (zs_F (zs_F S 13 p st) 14 p v) p (nI (z_ak S p)) = v := by
    unfold z_vl
    rw [e10, if_neg n10, zF_eq, if_pos ⟨rfl, rfl⟩]
  refine c_postWhens R2 hI2 hp ha2 (by rw [est]; exact zval_ne hz) (fun w hw e23 e24 => ?_) (fun σ3 B3 R3 => ?_)
  · rw [zF_ne (by omega), zF_ne (by omega)] at e23 e24 ⊢
    exact hI.2.2.2.2.2.2.2.2.1 w p (z_ak S p) hw e23 hp e24 ha2 (by rw [if_neg hne]; exact h13)
  · rw [est, evl] at R3
    exact k σ3 B3 R3
theorem w_Q {S : zS} {p q : Nat} {l : List Nat} {v : Int32} (e : z_Q S q = p :: l) : z_w (zs_Q S q l) p v = z_w S p v := by
  have e2 : (fun t => (va_up (z_Q S) q l t).filter (fun q => !(q == p))) = (fun t => (z_Q S t).filter (fun q => !(q == p))) := by
    funext t
    unfold va_up
    by_cases h : t = q
    · rw [if_pos h, h, e]; simp
    · rw [if_neg h]
  show (xu_2 (z_F S) 16 p v, z_N S, z_u S, z_r S, z_W S, _, (fun t => (va_up (z_Q S) q l t).filter (fun q => !(q == p))), z_D S) = _
  rw [e2]; rfl
theorem w_H {S : zS} {p q : Nat} {l : List Nat} {v : Int32} (e : z_H S q = p :: l) : z_w (zs_H S q l) p v = z_w S p v := by
  have e2 : (fun t => (va_up (z_H S) q l t).filter (fun q => !(q == p))) = (fun t => (z_H S t).filter (fun q => !(q == p))) := by
    funext t
    unfold va_up
    by_cases h : t = q
    · rw [if_pos h, h, e]; simp
    · rw [if_neg h]
  show (xu_2 (z_F S) 16 p v, z_N S, z_u S, z_r S, z_W S, (fun t => (va_up (z_H S) q l t).filter (fun q => !(q == p))), _, z_D S) = _
  rw [e2]; rfl
theorem settle_Q {S : zS} {p q h : Nat} {l : List Nat} {st v : Int32} (e : z_Q S q = p :: l) : z_settle (zs_Q S q l) p h st v = z_settle S p h st v := by
  have e3 : z_hm (zs_Q S q l) p = z_hm S p := rfl
  unfold z_settle
  rw [w_Q e, e3]
theorem settle_H {S : zS} {p q h : Nat} {l : List Nat} {st v : Int32} (e : z_H S q = p :: l) : z_settle (zs_H S q l) p h st v = z_settle S p h st v := by
  have e3 : z_hm (zs_H S q l) p = z_hm S p := rfl
  unfold z_settle
  rw [w_H e, e3]
theorem unmove_Q {S : zS} {p q : Nat} {l : List Nat} : z_unmove (zs_Q S q l) p = zs_Q (z_unmove S p) q l := by
  have e20 : z_F (zs_Q S q l) = z_F S := rfl
  unfold z_unmove
  rw [e20]
  by_cases h : z_F S 20 p < 0
  · rw [if_pos h, if_pos h]
  · rw [if_neg h, if_neg h]; rfl
theorem go_Q {S : zS} {p q h : Nat} {l : List Nat} {st v : Int32} (e : z_Q S q = p :: l) : z_go (zs_Q S q l) p h st v = z_go S p h st v := by
  unfold z_go
  split
  · unfold z_sendT z_send
    have e36 : z_F (zs_Q S q l) = z_F S := rfl
    have ehs : z_hs (zs_Q S q l) v.toNatClampNeg = z_hs S v.toNatClampNeg := rfl
    have eF : zs_F (zs_Q S q l) 15 p (z_F S 15 p + 1) = zs_Q (zs_F S 15 p (z_F S 15 p + 1)) q l := rfl
    rw [e36, ehs, eF]
    split
    · rw [w_Q (S := zs_F S 15 p (z_F S 15 p + 1)) e]
    · unfold z_lose
      rw [unmove_Q, settle_Q]
      rw [HQ_unmove.2]; exact e
  · rw [settle_Q e]
theorem I_HQ {S : zS} (hI : zI S) (H2 Q2 : Nat → List Nat) (hH : ∀ t, (H2 t).Sublist (z_H S t)) (hQ : ∀ t, (Q2 t).Sublist (z_Q S t)) : zI (z_F S, z_N S, z_u S, z_r S, z_W S, H2, Q2, z_D S) := by
  obtain ⟨hv, ha, hb, hc, hd, he, hg, hh, hi, hj, hk, hm⟩ := hI
  exact ⟨hv, ha, hb, hc, fun t p hp => hd t p ((hH t).subset hp), ⟨fun t => (he.1 t).sublist (hH t), fun t t2 p h1 h2 => he.2 t t2 p ((hH t).subset h1) ((hH t2).subset h2)⟩, fun t p hp => hg t p ((hQ t).subset hp), ⟨fun t => (hh.1 t).sublist (hQ t), fun t t2 p h1 h2 => hh.2 t t2 p ((hQ t).subset h1) ((hQ t2).subset h2)⟩, hi, hj, hk, hm⟩
theorem sub_up {f : Nat → List Nat} {q p : Nat} {l : List Nat} (e : f q = p :: l) (t : Nat) : (va_up f q l t).Sublist (f t) := by
  unfold va_up
  by_cases h : t = q
  · rw [if_pos h, h, e]; exact List.sublist_cons_self _ _
  · rw [if_neg h]; exact List.Sublist.refl _
theorem up_notin {f : Nat → List Nat} {q p : Nat} {l : List Nat} (e : f q = p :: l) (hn : ∀ t, (f t).Nodup) (hu : ∀ t t2 p, p ∈ f t → p ∈ f t2 → t = t2) (t : Nat) : p ∉ va_up f q l t := by
  unfold va_up
  have h1 : p ∈ f q := by rw [e]; exact List.mem_cons_self
  by_cases h : t = q
  · rw [if_pos h]
    have := hn q
    rw [e] at this
    exact (List.nodup_cons.mp this).1
  · rw [if_neg h]; exact fun z => h (hu t q p z h1)
theorem I_tkQ {S : zS} {p q : Nat} {l : List Nat} (hI : zI S) (e : z_Q S q = p :: l) : zI (zs_Q S q l) ∧ (∀ t, p ∉ z_H (zs_Q S q l) t) ∧ (∀ t, p ∉ z_Q (zs_Q S q l) t) := by
  have hm : p ∈ z_Q S q := by rw [e]; exact List.mem_cons_self
  refine ⟨I_HQ hI (z_H S) (va_up (z_Q S) q l) (fun _ => List.Sublist.refl _) (sub_up e), fun t => notin_H hI (by rw [(hI.2.2.2.2.2.2.1 q p hm).2.2.1]; decide) t, up_notin e hI.2.2.2.2.2.2.2.1.1 hI.2.2.2.2.2.2.2.1.2⟩
theorem I_tkH {S : zS} {p q : Nat} {l : List Nat} (hI : zI S) (e : z_H S q = p :: l) : zI (zs_H S q l) ∧ (∀ t, p ∉ z_H (zs_H S q l) t) ∧ (∀ t, p ∉ z_Q (zs_H S q l) t) := by
  have hm : p ∈ z_H S q := by rw [e]; exact List.mem_cons_self
  refine ⟨I_HQ hI (va_up (z_H S) q l) (z_Q S) (sub_up e) (fun _ => List.Sublist.refl _), up_notin e hI.2.2.2.2.2.1.1 hI.2.2.2.2.2.1.2, fun t => notin_Q hI (by rw [(hI.2.2.2.2.1 q p hm).2.2.1]; decide) t⟩
theorem c_fulfil {x : Nat} {σ : xS} {S : zS} {g : zG} {B : Nat → List Nat} {p : Nat} {st v : Int32} {Q : xS → Prop} (hR : RC x σ S g B) (hI : zI S) (hf : zFree S p) (h16 : z_F S 16 p = 0) (h11 : z_F S 11 p = 0) (hz : zval S st v) (h71 : xh_I σ 71 (gM g p) = 1) (h72 : xh_I σ 72 (gM g p) = st) (h73 : xh_I σ 73 (gM g p) = v) (k : ∀ σ2 B2, RC x σ2 (z_one S p st v) g B2 → Q σ2) : wp_X6_fulfil σ x (gM g p + 1) (gM g p) Q := by
  have b := hI.1.1
  have hp := hf.1
  obtain ⟨⟨ha1, ha2⟩, ⟨hm1, hm2⟩, -⟩ := hI.1.2.2.1 p hp
  obtain ⟨m1, m2, m3, m4, m5⟩ := hR.2.2.2.1.2.1 p hp
  have h20 : z_F S 20 p < 0 := by
    rcases hI.2.2.2.2.2.2.2.2.2.2.1 p hp with z | ⟨z, -⟩
    · exact z
    · rw [h16] at z; exact absurd z (by decide)
  have h13 : z_F S 13 p = 0 := (hI.2.2.2.2.2.2.2.2.2.2.2 p hp).1 h11
  have hst := zval_ne hz
  obtain ⟨i1, ⟨i2, f2, n2, k2, e112, e162, e132⟩, ⟨i3, n3, k3, e113⟩, -⟩ := I_one hI hf h16 h11 hz
  -- what is behind the waiting ones
  have tail : ∀ (σ : xS) (B : Nat → List Nat), RC x σ (z_one2 S p st v) g B → xh_I σ 71 (gM g p) = 1 → xh_I σ 72 (gM g p) = st → xh_I σ 73 (gM g p) = v → z_F (z_one2 S p st v) 12 p = v → z_F (z_one2 S p st v) 20 p < 0 → (∀ t, p ∉ z_H (z_one2 S p st v) t) → (∀ t, p ∉ z_Q (z_one2 S p st v) t) → (z_F (z_one2 S p st v) 26 = z_F S 26 ∧ z_F (z_one2 S p st v) 23 = z_F S 23 ∧ z_F (z_one2 S p st v) 24 = z_F S 24) → xh_k σ (gM g p + 1) = 3 ∧ ((xh_I σ 129 (gM g p + 1) = xh_I σ 130 (gM g p + 1) → wb_X6_fulfil_97 Q σ x (gM g p + 1)) ∧ (¬ xh_I σ 129 (gM g p + 1) = xh_I σ 130 (gM g p + 1) → wp_X6_post σ x (gM g p) (xh_I σ 130 (gM g p + 1)) (xh_I σ 129 (gM g p + 1)) (fun x6 σ7 => (x6 = 0 → xh_k σ7 (gM g p) = 2 ∧ wp_X1_breakByCut σ7 (gM g p) (fun σ10 => xw6 σ10 x ∧ (wp_X6_tellAsker σ10 x (gM g p + 1) (gM g p) (fun σ11 => wb_X6_fulfil_97 Q σ11 x (gM g p + 1))))) ∧ (¬ x6 = 0 → wb_X6_fulfil_97 Q σ7 x (gM g p + 1))))) := by
    intro σ B R h71 h72 h73 e12 h20 hH hQ h26
    have hp2 : p < z_N (z_one2 S p st v) 1 := f2.1
    have hl := lose_of R i2 f2 hH hQ
    have e9 : z_F (z_one2 S p st v) 9 = z_F S 9 := k2 9 (Or.inl rfl)
    have e10 : z_F (z_one2 S p st v) 10 = z_F S 10 := k2 10 (Or.inr rfl)
    have r9 : xh_I σ 129 (gM g p + 1) = nI (z_ak S p) := by
      have : xh_I σ 129 (gM g p + 1) = z_F (z_one2 S p st v) 9 p := rI R 9 p (by decide) hp2
      rw [this, e9]; exact ha1
    have r10 : xh_I σ 130 (gM g p + 1) = nI (z_hm S p) := by
      have : xh_I σ 130 (gM g p + 1) = z_F (z_one2 S p st v) 10 p := rI R 10 p (by decide) hp2
      rw [this, e10]; exact hm1
    -- the WHENs of the home
    have fin : ∀ (σ : xS) (B : Nat → List Nat), RC x σ (z_one3 S p st v) g B → z_F (z_one3 S p st v) 12 p = v → (∀ w, w < z_N S 2 → z_F (z_one3 S p st v) 23 w = nI p → z_F (z_one3 S p st v) 24 w = nI (z_hm S p) → z_F (z_one3 S p st v) 26 w = 0) → wb_X6_fulfil_97 Q σ x (gM g p + 1) := by
      intro σ B R e12 h26
      have hp3 : p < z_N (z_one3 S p st v) 1 := by rw [n3]; exact hp
      have e10 : z_F (z_one3 S p st v) 10 = z_F S 10 := k3 10 (Or.inr rfl)
      have r10 : xh_I σ 130 (gM g p + 1) = nI (z_hm S p) := by
        have : xh_I σ 130 (gM g p + 1) = z_F (z_one3 S p st v) 10 p := rI R 10 p (by decide) hp3
        rw [this, e10]; exact hm1
      have est : z_st (z_one3 S p st v) p (nI (z_hm S p)) = st := by
        unfold z_st; rw [e10, if_pos hm1, e113, if_pos rfl]
      have evl : z_vl (z_one3 S p st v) p (nI (z_hm S p)) = v := by
        unfold z_vl; rw [e10, if_pos hm1, e12]
      refine ⟨(R.2.2.2.1.2.1 p hp3).2.1, ?_⟩
      rw [r10]
      refine c_postWhens R i3 hp3 hm2 (by rw [est]; exact hst) (by rw [n3]; exact h26) (fun σ2 B2 R2 => ?_)
      rw [est, evl] at R2
      exact k σ2 B2 R2
    have h26h : ∀ w, w < z_N S 2 → z_F (z_one2 S p st v) 23 w = nI p → z_F (z_one2 S p st v) 24 w = nI (z_hm S p) → z_F (z_one2 S p st v) 26 w = 0 := by
      intro w hw e23 e24
      rw [h26.1]
      rw [h26.2.1] at e23
      rw [h26.2.2] at e24
      exact hI.2.2.2.2.2.2.2.2.1 w p (z_hm S p) hw e23 hp e24 hm2 (by rw [if_pos rfl]; exact h11)
    rw [r9, r10, nI_eq (by omega) (by omega)]
    have one3 : z_one3 S p st v = if z_F S 9 p = z_F S 10 p then z_one2 S p st v else z_ansA (z_one2 S p st v) (z_hm S p) p st v := rfl
    have eqv : z_F S 9 p = z_F S 10 p ↔ z_ak S p = z_hm S p := by rw [ha1, hm1]; exact nI_eq (by omega) (by omega)
    refine ⟨(R.2.2.2.1.2.1 p hp2).2.1, fun z => ?_, fun z => ?_⟩
    · rw [if_pos (eqv.mpr z)] at one3
      exact fin σ B (by rw [one3]; exact R) (by rw [one3]; exact e12) (by rw [one3]; exact h26h)
    · rw [if_neg (fun y => z (eqv.mp y))] at one3
      have hak2 : z_ak (z_one2 S p st v) p = z_ak S p := by unfold z_ak; rw [e9]
      have hhm2 : z_hm (z_one2 S p st v) p = z_hm S p := by unfold z_hm; rw [e10]
      have hlt : zLt σ (z_one2 S p st v) g (gM g p) (3, p, none, none, st, v) := Or.inr (Or.inl ⟨Or.inr rfl, rfl, h71, h72, h73⟩)
      have an : z_ansA (z_one2 S p st v) (z_hm S p) p st v = if z_F (z_one2 S p st v) 36 (4 * z_hm S p + z_ak S p) = 0 then z_post (zs_F (z_one2 S p st v) 15 p (z_F (z_one2 S p st v) 15 p + 1)) (4 * z_hm S p + z_ak S p) (3, p, none, none, st, v) else z_arr (zs_F (z_one2 S p st v) 15 p (z_F (z_one2 S p st v) 15 p + 1)) p 3 1 := by
        unfold z_ansA; rw [hak2]
      refine c_post R hp2 hl hm2 ha2 hlt (fun z36 σ3 f3 R3 => ⟨fun y => absurd y (by decide), fun _ => ?_⟩) (fun z36 σ3 I3 R3 => ⟨fun _ => ?_, fun y => absurd rfl y⟩)
      · rw [if_pos z36] at an
        rw [an] at one3
        refine fin σ3 _ (by rw [one3]; exact R3) (by rw [one3]; show z_F (zs_F (z_one2 S p st v) 15 p (z_F (z_one2 S p st v) 15 p + 1)) 12 p = v; rw [zF_ne (by omega)]; exact e12) (fun w hw e23 e24 => ?_)
        have e26 : ∀ kk, ¬ kk = 15 → z_F (z_one3 S p st v) kk = z_F (z_one2 S p st v) kk := fun kk hk => by
          rw [one3]
          show z_F (zs_F (z_one2 S p st v) 15 p (z_F (z_one2 S p st v) 15 p + 1)) kk = _
          exact funext (fun _ => zF_ne hk)
        rw [e26 _ (by omega)] at e23 e24 ⊢
        exact h26h w hw e23 e24
      · rw [if_neg z36] at an
        rw [an] at one3
        have i3b : zI (zs_F (z_one2 S p st v) 15 p (z_F (z_one2 S p st v) 15 p + 1)) := I_15 i2
        have h20b : z_F (zs_F (z_one2 S p st v) 15 p (z_F (z_one2 S p st v) 15 p + 1)) 20 p < 0 := by rw [zF_ne (by omega)]; exact h20
        refine ⟨(R3.2.2.2.1.2.1 p hp2).1, c_break R3 i3b hp2 hl (fun σ4 f4 g72 g73 g71 R4 => ⟨R4.1.1, ?_⟩)⟩
        have eun : z_unmove (zs_F (z_one2 S p st v) 15 p (z_F (z_one2 S p st v) 15 p + 1)) p = zs_F (z_one2 S p st v) 15 p (z_F (z_one2 S p st v) 15 p + 1) := by
          unfold z_unmove; rw [if_pos h20b]
        rw [eun] at R4
        have f3b : zFree (zs_F (z_one2 S p st v) 15 p (z_F (z_one2 S p st v) 15 p + 1)) p := f2
        have e11b : ¬ z_F (zs_F (z_one2 S p st v) 15 p (z_F (z_one2 S p st v) 15 p + 1)) 11 p = 0 := by
          rw [zF_ne (by omega), e112, if_pos rfl]; exact hst
        have e13b : z_F (zs_F (z_one2 S p st v) 15 p (z_F (z_one2 S p st v) 15 p + 1)) 13 p = 0 := by
          rw [zF_ne (by omega)]; exact e132
        have eak : z_ak (zs_F (z_one2 S p st v) 15 p (z_F (z_one2 S p st v) 15 p + 1)) p = z_ak S p := by
          unfold z_ak; rw [zF_ne (by omega), e9]
        have ehm : z_hm (zs_F (z_one2 S p st v) 15 p (z_F (z_one2 S p st v) 15 p + 1)) p = z_hm S p := by
          unfold z_hm; rw [zF_ne (by omega), e10]
        refine c_tellAsker R4 i3b f3b e11b e13b (by rw [eak, ehm]; exact z) zv3 g72 g73 (fun σ5 B5 R5 => ?_)
        have fr := zFr_arr (p := p) (S := zs_F (z_one2 S p st v) 15 p (z_F (z_one2 S p st v) 15 p + 1)) (st := 3) (v := 1)
        refine fin σ5 B5 (by rw [one3]; exact R5) ?_ (fun w hw e23 e24 => ?_)
        · rw [one3, fr.2.1 12 (by omega) (by omega) (by omega) (by omega) (by omega) (by omega) (by omega), zF_ne (by omega)]; exact e12
        · rw [one3, fr.2.1 23 (by omega) (by omega) (by omega) (by omega) (by omega) (by omega) (by omega), zF_ne (by omega)] at e23
          rw [one3, fr.2.1 24 (by omega) (by omega) (by omega) (by omega) (by omega) (by omega) (by omega), zF_ne (by omega)] at e24
          rw [one3]
          unfold z_arr
          rw [eak, f26_pws]
          · rw [zF_ne (by omega), zF_ne (by omega), zF_ne (by omega)]
            exact h26h w hw e23 e24
          · rw [zF_ne (by omega), zF_ne (by omega), zF_ne (by omega), e24, nI_eq (by omega) (by omega)]
            exact fun y => z y.symm
  -- the waiting ones
  have loop : ∀ (l : List Nat) (i n : Nat) (σ : xS) (S1 : zS) (B : Nat → List Nat), n = i + l.length → n < 1000 → z_Q S1 p = l → RC x σ S1 g B → zI S1 → z_gos S1 l (z_hm S p) st v = z_one2 S p st v → xh_I σ 71 (gM g p) = 1 → xh_I σ 72 (gM g p) = st → xh_I σ 73 (gM g p) = v → z_F S1 11 p = st → z_F S1 12 p = v → z_hm S1 p = z_hm S p → z_N S1 = z_N S → z_F S1 20 p < 0 → (∀ t, p ∉ z_H S1 t) → (∀ t, p ∉ z_Q S1 t) → (z_F S1 26 = z_F S 26 ∧ z_F S1 23 = z_F S 23 ∧ z_F S1 24 = z_F S 24) → ∀ f, l.length < f → wb_X6_fulfil_27 Q x f σ (gM g p + 1) (gM g p) (nI n) (nI i) := by
    intro l
    induction l with
    | nil =>
      intro i n σ S1 B hn hn2 hQ1 R hI1 hg h71 h72 h73 e11 e12 ehm eN h20 hH hQ h26 f hf
      cases f with
      | zero => simp at hf
      | succ f =>
        unfold wb_X6_fulfil_27
        have e : S1 = z_one2 S p st v := hg
        have hni : n = i := by simpa using hn
        rw [nle (by omega) (by omega)]
        refine ⟨fun _ => ?_, fun z => absurd (by omega) z⟩
        subst e
        exact tail σ B R h71 h72 h73 e12 h20 hH hQ h26
    | cons a l ih =>
      intro i n σ S1 B hn hn2 hQ1 R hI1 hg h71 h72 h73 e11 e12 ehm eN h20 hH hQ h26 f hf
      cases f with
      | zero => simp at hf
      | succ f =>
        have hp1 : p < z_N S1 1 := by rw [eN]; exact hp
        have hlen : n = i + (l.length + 1) := by simpa using hn
        unfold wb_X6_fulfil_27
        rw [nle (by omega) (by omega)]
        refine ⟨fun z => absurd z (by omega), fun _ => ⟨(R.2.2.2.1.2.1 p hp1).2.1, gM g p + 2, (R.2.2.1.2.1 p hp1).2.2.2.1, (R.2.2.2.1.2.1 p hp1).2.2.1, ?_⟩⟩
        refine c_takeQ R hp1 (fun e => by rw [hQ1] at e; cases e) (fun a2 l2 σ2 e q2 R2 lo2 g71 => ⟨R2.1.1, fun z => (by cases z), fun a9 z => ?_⟩)
        cases z
        rw [hQ1] at e
        obtain ⟨rfl, rfl⟩ : a2 = a ∧ l2 = l := by
          have := List.cons.inj e
          exact ⟨this.1.symm, this.2.symm⟩
        obtain ⟨fa1, fa2, fa3⟩ := free_of_Q hI1 (q := a2) (p := p) (by rw [hQ1]; exact List.mem_cons_self)
        obtain ⟨j1, j2, j3⟩ := I_tkQ hI1 hQ1
        have fa : zFree (zs_Q S1 p l2) a2 := fa1
        have hne : a2 ≠ p := fun z => hQ p (by rw [hQ1, z]; exact List.mem_cons_self)
        have hgne : gM g p ≠ gM g a2 := fun z => hne (R.2.2.2.1.2.2.2.2.2.2.1 a2 p fa1.1 hp1 z.symm)
        have hz1 : zval (zs_Q S1 p l2) (z_F S1 11 p) (z_F S1 12 p) := by
          rw [e11, e12]
          exact zval_congr hz eN
        refine c_sendOn R2 j1 fa j2 j3 fa2 g71 hp1 hz1 (fun σ3 B3 f3 R3 => ?_)
        have R3b : RC x σ3 (z_go (zs_Q S1 p l2) a2 (z_hm S1 p) (z_F S1 11 p) (z_F S1 12 p)) g B3 := R3
        rw [go_Q hQ1, e11, e12, ehm] at R3b
        unfold wb_X6_fulfil_54
        rw [nI_1]
        have fr := zFr_go (p := a2) (S := S1) (h := z_hm S p) (st := st) (v := v)
        have same : ∀ f, f = 71 ∨ f = 72 ∨ f = 73 → xh_I σ3 f (gM g p) = xh_I σ f (gM g p) := fun f hf => by
          rw [f3 f (gM g p) hf hgne, q2.I (by omega)]
        have hz2 : zval S1 st v := zval_congr hz eN
        have hI3 : zI (z_go S1 a2 (z_hm S p) st v) := I_go hI1 fa1 fa3 fa2 hz2 hm2
        have hQ3 : z_Q (z_go S1 a2 (z_hm S p) st v) p = l2 := by
          rw [HQ_go.2]
          show (z_Q S1 p).filter _ = l2
          rw [hQ1]
          exact drop_head (by rw [← hQ1]; exact hI1.2.2.2.2.2.2.2.1.1 p)
        refine ih (i + 1) n σ3 (z_go S1 a2 (z_hm S p) st v) B3 (by omega) hn2 hQ3 R3b hI3 hg (by rw [same _ (by omega)]; exact h71) (by rw [same _ (by omega)]; exact h72) (by rw [same _ (by omega)]; exact h73) ?_ ?_ ?_ (fr.1.trans eN) ?_ ?_ ?_ ⟨?_, ?_, ?_⟩ f (by simp at hf; omega)
        · rw [fr.2.1 11 (by omega) (by omega) (by omega) (by omega) (by omega) (by omega) (by omega)]; exact e11
        · rw [fr.2.1 12 (by omega) (by omega) (by omega) (by omega) (by omega) (by omega) (by omega)]; exact e12
        · have e10 : z_F (z_go S1 a2 (z_hm S p) st v) 10 p = z_F S1 10 p := by rw [fr.2.1 10 (by omega) (by omega) (by omega) (by omega) (by omega) (by omega) (by omega)]
          show (z_F (z_go S1 a2 (z_hm S p) st v) 10 p).toNatClampNeg = z_hm S p
          rw [e10]; exact ehm
        · rw [(fr.2.2.1 p (Ne.symm hne)).2.2]; exact h20
        · intro t z
          rw [HQ_go.1] at z
          exact hH t (List.mem_filter.mp z).1
        · intro t z
          rw [HQ_go.2] at z
          exact hQ t (List.mem_filter.mp z).1
        · rw [f26_go]; exact h26.1
        · rw [fr.2.1 23 (by omega) (by omega) (by omega) (by omega) (by omega) (by omega) (by omega)]; exact h26.2.1
        · rw [fr.2.1 24 (by omega) (by omega) (by omega) (by omega) (by omega) (by omega) (by omega)]; exact h26.2.2
  unfold wp_X6_fulfil
  rw [h72]
  refine ⟨m1, m2, fun σ1 e1 => ?_⟩
  have h73b : xh_I σ1 73 (gM g p) = v := by rw [e1, xI2, if_neg (by omega)]; exact h73
  rw [h73b]
  intro σ2 e2
  have R1 : RC x σ1 (zs_F S 11 p st) g B := R_F hR (k := 11) (i := p) e1 (by decide) hp
  have R2 : RC x σ2 (z_one1 S p st v) g B := R_F R1 (k := 12) (i := p) e2 (by decide) hp
  have I2 : ∀ f, f = 71 ∨ f = 72 ∨ f = 73 → xh_I σ2 f (gM g p) = xh_I σ f (gM g p) := fun f hf => by
    rw [e2, xI2, if_neg (by omega), e1, xI2, if_neg (by omega)]
  have hQl : (z_Q S p).length ≤ 100 := by
    have := nd_len (z_N S 1) (z_Q S p) (hI.2.2.2.2.2.2.2.1.1 p) (fun a ha => (hI.2.2.2.2.2.2.1 p a ha).2.1)
    omega
  have hsz : xh_I σ2 2 (gM g p + 2) = nI (z_Q S p).length := by
    have := (R2.2.2.2.2.1.1 (3, p) (lV_3 hp)).2.2.2.1
    rw [lL_3, List.length_map] at this
    exact this
  refine ⟨gM g p + 2, (R2.2.2.1.2.1 p hp).2.2.2.1, (R2.2.2.2.1.2.1 p hp).2.2.1, (z_Q S p).length + 1, ?_⟩
  rw [hsz]
  have := loop (z_Q S p) 0 (z_Q S p).length σ2 (z_one1 S p st v) B (by omega) (by omega) rfl R2 i1 rfl (by rw [I2 _ (by omega)]; exact h71) (by rw [I2 _ (by omega)]; exact h72) (by rw [I2 _ (by omega)]; exact h73) ?_ ?_ ?_ rfl ?_ (fun t => notin_H hI (by rw [h16]; decide) t) (fun t => notin_Q hI (by rw [h16]; decide) t) ⟨?_, ?_, ?_⟩ ((z_Q S p).length + 1) (by omega)
  · rw [nI_0] at this; exact this
  · unfold z_one1; rw [zF_ne (by omega), zF_eq, if_pos ⟨rfl, rfl⟩]
  · unfold z_one1; rw [zF_eq, if_pos ⟨rfl, rfl⟩]
  · unfold z_hm z_one1; rw [zF_ne (by omega), zF_ne (by omega)]
  · unfold z_one1; rw [zF_ne (by omega), zF_ne (by omega)]; exact h20
  · unfold z_one1; funext j; rw [zF_ne (by omega), zF_ne (by omega)]
  · unfold z_one1; funext j; rw [zF_ne (by omega), zF_ne (by omega)]
  · unfold z_one1; funext j; rw [zF_ne (by omega), zF_ne (by omega)]
theorem c_all {x : Nat} {g : zG} {Q : xS → Prop} : ∀ (n i : Nat) (σ : xS) (S : zS) (B : Nat → List Nat), 1000 = i + n → RC x σ S g B → zI S → (∀ σ2 B2, RC x σ2 (z_all n S) g B2 → Q σ2) → wb_X6_doAll_2 Q x (n + 1) σ (nI i) := by
  intro n
  induction n with
  | zero =>
    intro i σ S B hi hR hI k
    unfold wb_X6_doAll_2
    rw [show (1000 : Int32) = nI 1000 from rfl, nI_leI (by omega) (by omega)]
    exact ⟨fun _ => k σ B hR, fun z => absurd (by omega) z⟩
  | succ n ih =>
    intro i σ S B hi hR hI k
    have hdl := zI_due hI
    have hsz : xh_I σ 2 (x + 5) = nI (z_D S).length := by
      have := (hR.2.2.2.2.1.1 (0, 0) lV_0).2.2.2.1
      rw [lL_0, List.length_map] at this
      exact this
    unfold wb_X6_doAll_2
    rw [show (1000 : Int32) = nI 1000 from rfl, nI_leI (by omega) (by omega), hsz, ← nI_0, nI_leI (by omega) (by omega)]
    unfold z_all at k
    refine ⟨fun z => absurd z (by omega), fun _ => ⟨fun z => ?_, fun z => ?_⟩⟩
    · have e : z_D S = [] := List.length_eq_zero_iff.mp (by omega)
      rw [e] at k
      exact k σ B hR
    · refine c_takeD hR (fun e => by rw [e] at z; exact absurd (by simp) z) (fun d ds σ2 e q R2 lo g71 g72 g73 => ⟨R2.1.1, fun z => (by cases z), fun a6 z => ?_⟩)
      cases z
      rw [e] at k
      obtain ⟨i1, f1, w1, o1, v1⟩ := I_pop hI e
      obtain ⟨-, -, -, i4, n4, f4⟩ := I_one i1 f1 w1 o1 v1
      have hd1 : d.1 < z_N (zs_D S ds) 1 := f1.1
      have h64 : xh_R σ2 64 (gM g d.1) = some (gM g d.1 + 1) := (R2.2.2.1.2.1 d.1 hd1).2.2.2.2.1
      rw [h64]
      refine ⟨(R2.2.2.2.1.2.1 d.1 hd1).1, fun z => (by cases z), fun a10 z => ?_⟩
      cases z
      refine c_fulfil R2 i1 f1 w1 o1 v1 g71 g72 g73 (fun σ3 B3 R3 => ?_)
      unfold wb_X6_doAll_47
      rw [nI_1]
      exact ih (i + 1) σ3 _ B3 (by omega) R3 i4 (fun σ4 B4 R4 => k σ4 B4 R4)
theorem c_doAll {x : Nat} {g : zG} {Q : xS → Prop} {σ : xS} {S : zS} {B : Nat → List Nat} (hR : RC x σ S g B) (hI : zI S) (k : ∀ σ2 B2, RC x σ2 (z_all 1000 S) g B2 → Q σ2) : wp_X6_doAll σ x Q := by
  refine ⟨1001, ?_⟩
  have := c_all 1000 0 σ S B (by omega) hR hI k
  rw [nI_0] at this
  exact this
