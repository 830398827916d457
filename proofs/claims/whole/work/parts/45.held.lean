/-! How many a thing holds is how many it says -/
def zK (S : zS) : Prop := ∀ t, t < z_N S 0 → z_F S 8 t = nI (z_H S t).length
def zKH (S S2 : zS) : Prop := z_H S2 = z_H S ∧ z_F S2 8 = z_F S 8 ∧ z_N S2 0 = z_N S 0
theorem zKH.rf {S : zS} : zKH S S := ⟨rfl, rfl, rfl⟩
theorem zKH.tr {S S2 S3 : zS} (h : zKH S S2) (h2 : zKH S2 S3) : zKH S S3 := ⟨h2.1.trans h.1, h2.2.1.trans h.2.1, h2.2.2.trans h.2.2⟩
theorem zK.kh {S S2 : zS} (h : zK S) (h2 : zKH S S2) : zK S2 := by
  intro t ht
  rw [h2.1, h2.2.1]
  exact h t (by rw [← h2.2.2]; exact ht)
theorem kh_F {S : zS} {k i : Nat} {v : Int32} (hk : k ≠ 8 := by omega) : zKH S (zs_F S k i v) := ⟨rfl, funext (fun _ => zF_ne (Ne.symm hk)), rfl⟩
theorem zFr.kh {p : Nat} {S S2 : zS} (h : zFr p S S2) (hH : z_H S2 = z_H S) : zKH S S2 := ⟨hH, h.2.1 8 (by omega) (by omega) (by omega) (by omega) (by omega) (by omega) (by omega), by rw [h.1]⟩
theorem zFw.kh {S S2 : zS} (h : zFw S S2) : zKH S S2 := ⟨h.2.2.1, h.2.1 8 (by omega), by rw [h.1]⟩
theorem kh_settle {S : zS} {p h : Nat} {st v : Int32} (hn : ∀ t, p ∉ z_H S t) : zKH S (z_settle S p h st v) := zFr_settle.kh (by rw [HQ_settle.1, zdrop_id hn])
theorem kh_lose {S : zS} {p h : Nat} (hn : ∀ t, p ∉ z_H S t) : zKH S (z_lose S p h) := zFr_lose.kh (by rw [HQ_lose.1, zdrop_id hn])
theorem kh_send {S : zS} {p h g : Nat} {th asked : Option Nat} (hn : ∀ t, p ∉ z_H S t) : zKH S (z_send S p h g th asked) := zFr_send.kh (by rw [HQ_send.1, zdrop_id hn])
theorem kh_go {S : zS} {p h : Nat} {st v : Int32} (hn : ∀ t, p ∉ z_H S t) : zKH S (z_go S p h st v) := zFr_go.kh (by rw [HQ_go.1, zdrop_id hn])
theorem kh_arr {S : zS} {p : Nat} {st v : Int32} : zKH S (z_arr S p st v) := zFr_arr.kh HQ_arr.1
theorem kh_ansA {S : zS} {p h : Nat} {st v : Int32} : zKH S (z_ansA S h p st v) := zFr_ansA.kh HQ_ansA.1
theorem hf_H {S : zS} {hand : Option Nat} {p : Nat} (hI : zI S) (hf : zHf S hand) (e : hand = some p) (t : Nat) : p ∉ z_H S t := notin_H hI (by rw [(hf p e).2.2.2]; decide) t
theorem kh_answer {S : zS} {hand : Option Nat} {t : Nat} {st v : Int32} (hn : ∀ p, hand = some p → ∀ t, p ∉ z_H S t) : zKH S (z_answer S hand t st v) := by
  cases hand with
  | none => exact zKH.rf
  | some p => exact kh_settle (hn p rfl)
theorem kh_cell {S : zS} {hand : Option Nat} {t : Nat} {act n : Int32} (hn : ∀ p, hand = some p → ∀ t, p ∉ z_H S t) : zKH S (z_cell S hand t act n) := by
  have key : ∀ r, zKH S (z_cell1 (zs_r S r) hand t act n) := by
    intro r
    refine zKH.tr (S2 := zs_r S r) zKH.rf ?_
    unfold z_cell1
    split
    · exact kh_answer hn
    · split
      · exact (kh_F (k := 3)).tr (kh_answer hn)
      · split
        · exact (kh_F (k := 3)).tr (kh_answer hn)
        · split
          · exact (kh_F (k := 3)).tr (kh_answer hn)
          · split
            · exact kh_answer hn
            · exact kh_answer hn
  exact key _
theorem kh_move {S : zS} {p t : Nat} {n : Int32} (hn : ∀ t, p ∉ z_H S t) : zKH S (z_move S p t n) := by
  unfold z_move
  split
  · exact kh_settle hn
  · split
    · exact kh_settle hn
    · exact ((kh_F (k := 3)).tr ((kh_F (k := 17)).tr (kh_F (k := 20)))).tr (kh_send hn)
theorem kh_purse {S : zS} {hand : Option Nat} {t : Nat} {act n : Int32} (hn : ∀ p, hand = some p → ∀ t, p ∉ z_H S t) : zKH S (z_purse S hand t act n) := by
  have key : ∀ r, zKH S (z_purse1 (zs_r S r) hand t act n) := by
    intro r
    refine zKH.tr (S2 := zs_r S r) zKH.rf ?_
    unfold z_purse1
    split
    · exact kh_answer hn
    · split
      · exact kh_answer hn
      · split
        · cases hand with
          | none => exact zKH.rf
          | some p => exact kh_move (hn p rfl)
        · exact kh_cell hn
  exact key _
theorem H_out {S : zS} (hI : zI S) {t : Nat} (ht : z_N S 0 ≤ t) : z_H S t = [] := by
  cases e : z_H S t with
  | nil => rfl
  | cons a l =>
    have := (hI.2.2.2.2.1 t a (by rw [e]; exact List.mem_cons_self)).1
    omega
theorem K_new {S : zS} {h k n g a : Int32} (hI : zI S) (hK : zK S) : zK (z_new S h k n g a) := by
  intro t ht
  rw [zF_new]
  have hN0 : z_N (z_new S h k n g a) 0 = z_N S 0 + 1 := rfl
  have hH : z_H (z_new S h k n g a) t = z_H S t := rfl
  by_cases e : t = z_N S 0
  · rw [if_pos ⟨rfl, e⟩, hH, H_out hI (by omega)]; rfl
  · repeat rw [if_neg (by omega)]
    rw [hH]
    exact hK t (by omega)
theorem K_maker {S : zS} {hand : Option Nat} {t : Nat} {act n : Int32} (hI : zI S) (hK : zK S) (hn : ∀ p, hand = some p → ∀ t, p ∉ z_H S t) : zK (z_maker S hand t act n) := by
  have key : ∀ r, zK (z_maker1 (zs_r S r) hand t act n) := by
    intro r
    have hK1 : zK (zs_r S r) := hK
    have hI1 : zI (zs_r S r) := I_r hI
    unfold z_maker1
    split
    · exact hK1.kh (kh_answer hn)
    · split
      · exact hK1.kh (kh_answer hn)
      · split
        · exact hK1.kh (kh_answer hn)
        · split
          · exact hK1.kh (kh_answer hn)
          · exact (K_new (I_3 hI1) (hK1.kh (kh_F (k := 3)))).kh (kh_answer hn)
  exact key _
theorem kh_guard {S : zS} {hand : Option Nat} {t : Nat} {act n : Int32} (hn : ∀ p, hand = some p → ∀ t, p ∉ z_H S t) : zKH S (z_guard S hand t act n) := by
  have key : ∀ r, zKH S (z_guard1 (zs_r S r) hand t act n) := by
    intro r
    refine zKH.tr (S2 := zs_r S r) zKH.rf ?_
    unfold z_guard1
    split
    · exact kh_answer hn
    · split
      · exact kh_answer hn
      · cases hand with
        | none => exact zFw_sw.kh
        | some p => exact kh_send (hn p rfl)
  exact key _
theorem kh_switch {S : zS} {hand : Option Nat} {t : Nat} {act n : Int32} (hn : ∀ p, hand = some p → ∀ t, p ∉ z_H S t) : zKH S (z_switch S hand t act n) := by
  have key : ∀ r, zKH S (z_switch1 (zs_r S r) hand t act n) := by
    intro r
    refine zKH.tr (S2 := zs_r S r) zKH.rf ?_
    unfold z_switch1
    split
    · exact kh_answer hn
    · exact kh_guard hn
  exact key _
theorem K_hold {S : zS} {p t : Nat} (hK : zK S) (ht : t < z_N S 0) : zK (z_hold S p t) := by
  intro t2 ht2
  rw [zF_hold]
  have hH : z_H (z_hold S p t) t2 = if t2 = t then z_H S t ++ [p] else z_H S t2 := rfl
  rw [hH]
  by_cases e : t2 = t
  · rw [if_pos ⟨rfl, e⟩, if_pos e, hK t ht, List.length_append]
    exact nI_1 _
  · rw [if_neg (fun z => e z.2), if_neg (by omega), if_neg e]
    exact hK t2 ht2
theorem K_free {S : zS} {t : Nat} {v : Int32} (hI : zI S) (hK : zK S) (ht : t < z_N S 0) : zK (z_free S t v) := by
  obtain ⟨g1, g2, g3, g4, g5⟩ := I_free (v := v) hI ht
  intro t2 ht2
  rw [g2] at ht2
  rw [g4, g5]
  by_cases e : t2 = t
  · rw [if_pos e, if_pos e]; rfl
  · rw [if_neg e, if_neg e]; exact hK t2 ht2
theorem K_joiner {S : zS} {hand : Option Nat} {t : Nat} {act : Int32} (hI : zI S) (hf : zHf S hand) (hK : zK S) (ht : t < z_N S 0) (hk : z_F S 2 t = 5 ∨ z_F S 2 t = 6) (hn : ∀ p, hand = some p → ∀ t, p ∉ z_H S t) : zK (z_joiner S hand t act) := by
  have key : ∀ r, zK (z_joiner1 (zs_r S r) hand t act) := by
    intro r
    have hK1 : zK (zs_r S r) := hK
    have hI1 : zI (zs_r S r) := I_r hI
    unfold z_joiner1
    split
    · cases hand with
      | none => exact hK1
      | some p =>
        have h2 : zI (z_hold (zs_r S r) p t) := I_hold hI1 (r_Hf hf) (r_lt ht) (r_k2 hk)
        have h3 : zK (z_hold (zs_r S r) p t) := K_hold hK1 (r_lt ht)
        show zK (if _ then _ else _)
        split
        · exact h3
        · exact K_free h2 h3 ht
    · split
      · exact hK1.kh (kh_answer hn)
      · split
        · exact hK1.kh (kh_answer hn)
        · exact hK1.kh (kh_answer hn)
  exact key _
theorem K_sleeper {S : zS} {hand : Option Nat} {t : Nat} {act : Int32} (hI : zI S) (hf : zHf S hand) (hK : zK S) (ht : t < z_N S 0) (hk : z_F S 2 t = 5 ∨ z_F S 2 t = 6) (hn : ∀ p, hand = some p → ∀ t, p ∉ z_H S t) : zK (z_sleeper S hand t act) := by
  have key : ∀ r, zK (z_sleeper1 (zs_r S r) hand t act) := by
    intro r
    have hK1 : zK (zs_r S r) := hK
    unfold z_sleeper1
    split
    · cases hand with
      | none => exact hK1
      | some p => exact K_hold hK1 (r_lt ht)
    · exact K_joiner (I_r hI) (r_Hf hf) hK1 (r_lt ht) (r_k2 hk) hn
  exact key _
theorem K_hear {S : zS} {hand : Option Nat} {t : Nat} {act n : Int32} (hI : zI S) (hn : zHn S hand t act n) (hK : zK S) : zK (z_hear S hand t act n) := by
  obtain ⟨hf, ht, -, -⟩ := hn
  have hh : ∀ p, hand = some p → ∀ t, p ∉ z_H S t := fun p e t => hf_H hI hf e t
  have key : ∀ r, zK (z_hear1 (zs_u S r) hand t act n) := by
    intro r
    have hK1 : zK (zs_u S r) := hK
    have hI1 : zI (zs_u S r) := I_u hI
    have hf1 : zHf (zs_u S r) hand := hf
    have ht1 : t < z_N (zs_u S r) 0 := ht
    unfold z_hear1
    split
    · exact hK1.kh (kh_cell hh)
    · split
      · exact hK1.kh (kh_purse hh)
      · split
        · exact K_maker hI1 hK1 hh
        · split
          · exact hK1.kh (kh_guard hh)
          · split
            · exact hK1.kh (kh_switch hh)
            · split
              · rename_i e
                exact K_joiner hI1 hf1 hK1 ht1 (Or.inl e) hh
              · rename_i e0 e1 e2 e3 e4 e5
                exact K_sleeper hI1 hf1 hK1 ht1 (Or.inr (kind_6 hI1 ht1 e0 e1 e2 e3 e4 e5)) hh
  exact key _
theorem K_come {S : zS} {w : Nat} {l : zL} (hI : zI S) (hf : ¬ l.1 = 2 → zFree S l.2.1) (hc : l.1 = 2 → z_c2 S + 1 ≤ z_ps S) (hl : zLok S w l) (hK : zK S) : zK (z_come S l) := by
  have hl0 := hl
  rcases hl with ⟨k1, k2, k3, k4, k5, k6⟩ | ⟨k1, -⟩ | ⟨k1, -⟩ | ⟨k1, k2, ⟨t2, k3, k4⟩, k5, k6⟩
  · have hH : ∀ t, l.2.1 ∉ z_H S t := notin_H hI (by rw [k3]; decide)
    rcases k5 with ⟨t2, z1, z2, z3⟩ | ⟨q, z1, z2, z3, z4⟩
    · rw [come_t (by omega) (by omega) z2, if_pos k1]
      obtain ⟨i1, i2⟩ := zHn_msg hI (hf (by omega)) hl0 k1 rfl z2
      exact K_hear i1 i2 (hK.kh (kh_F (k := 20)))
    · rw [come_q (by omega) (by omega) z2 z3]
      split
      · refine hK.kh ⟨rfl, funext (fun j => ?_), rfl⟩
        show xu_2 (z_F S) 16 l.2.1 2 8 j = _
        unfold xu_2
        rw [if_neg (by omega)]
      · exact hK.kh (kh_go hH)
  · unfold z_come
    rw [if_pos k1]
    exact hK
  · unfold z_come
    rw [if_neg (by omega), if_pos k1]
    exact hK.kh kh_arr
  · rw [come_t (by omega) (by omega) k4, if_neg (by omega)]
    exact K_hear hI ⟨fun q e => (by cases e), k3, fun q e => (by cases e), fun _ => ⟨hc k1, rfl⟩⟩ hK
theorem kh_gos {h p : Nat} {st v : Int32} (hh : h < 4) : ∀ (l : List Nat) (S : zS), zI S → z_Q S p = l → zval S st v → zKH S (z_gos S l h st v) := by
  intro l
  induction l with
  | nil => intro S hI _ _; exact zKH.rf
  | cons a l ih =>
    intro S hI hQ hz
    have ha : a ∈ z_Q S p := by rw [hQ]; exact List.mem_cons_self
    obtain ⟨f1, f2, f3⟩ := free_of_Q hI ha
    have hI1 := I_go hI f1 f3 f2 hz hh
    have hF := zFr_go (p := a) (S := S) (h := h) (st := st) (v := v)
    have hQ1 : z_Q (z_go S a h st v) p = l := by
      rw [HQ_go.2]
      show (z_Q S p).filter _ = l
      rw [hQ]
      exact drop_head (by rw [← hQ]; exact hI.2.2.2.2.2.2.2.1.1 p)
    have hnH : ∀ t, a ∉ z_H S t := notin_H hI (by rw [(hI.2.2.2.2.2.2.1 p a ha).2.2.1]; decide)
    exact (kh_go hnH).tr (ih (z_go S a h st v) hI1 hQ1 (zval_congr hz hF.1))
theorem kh_one {S : zS} {p : Nat} {st v : Int32} (hI : zI S) (hf : zFree S p) (h16 : z_F S 16 p = 0) (hz : zval S st v) : zKH S (z_one S p st v) := by
  have hm4 := (hI.1.2.2.1 p hf.1).2.1.2
  rw [one_eq]
  have h1 : zI (z_one1 S p st v) := I_11 hI hf h16 hz
  have h2 : zKH S (z_one2 S p st v) := ((kh_F (k := 11)).tr (kh_F (k := 12))).tr (kh_gos (p := p) hm4 (z_Q S p) (z_one1 S p st v) h1 rfl hz)
  have h3 : zKH S (z_one3 S p st v) := by
    unfold z_one3
    split
    · exact h2
    · exact h2.tr kh_ansA
  exact h3.tr zFw_pws.kh
theorem kh_all : ∀ (n : Nat) (S : zS), zI S → zKH S (z_all n S) := by
  intro n
  induction n with
  | zero => intro S _; exact zKH.rf
  | succ n ih =>
    intro S hI
    unfold z_all
    cases e : z_D S with
    | nil => exact zKH.rf
    | cons d ds =>
      obtain ⟨i1, f1, w1, o1, v1⟩ := I_pop hI e
      obtain ⟨-, -, -, i4, n4, f4⟩ := I_one i1 f1 w1 o1 v1
      have h0 : zKH S (zs_D S ds) := ⟨rfl, rfl, rfl⟩
      exact (h0.tr (kh_one i1 f1 w1 v1)).tr (ih _ i4)
theorem K_dlv {S : zS} {w : Nat} {l : zL} {ls : List zL} (hI : zI S) (e : z_W S w = l :: ls) (hK : zK S) : zK (z_dlv S w l ls) := by
  obtain ⟨a1, a2, a3, a4, a5⟩ := I_off hI e
  have hK1 : zK (z_off S w l ls) := hK.kh ⟨rfl, funext (fun _ => zF_ne (by omega)), rfl⟩
  exact (K_come a1 a2 a3 a5 hK1).kh (kh_all 1000 _ (I_come a1 a2 a3 a5))
theorem K_flow : ∀ (n : Nat) (S : zS), zI S → zK S → zK (z_flow n S).2 := by
  intro n
  induction n with
  | zero => intro S hI hK; exact hK
  | succ n ih =>
    intro S hI hK
    unfold z_flow
    split
    · exact hK
    · split
      · exact hK
      · rename_i e
        exact ih _ (I_dlv hI e).1 (K_dlv hI e hK)
theorem K_lst {S : zS} {w : Nat} {l : zL} {ls : List zL} (hI : zI S) (e : z_W S w = l :: ls) (hK : zK S) : zK (z_lst S w l ls) := by
  obtain ⟨a1, a2, a3, a4, a5⟩ := I_off hI e
  have hK1 : zK (z_off S w l ls) := hK.kh ⟨rfl, funext (fun _ => zF_ne (by omega)), rfl⟩
  refine zK.kh ?_ (kh_all 1000 _ (I_lost a1 a2 a5 (by omega)))
  unfold z_lost
  have hl := a5
  rcases a5 with ⟨k1, k2, k3, k4⟩ | ⟨k1, -⟩ | ⟨k1, -⟩ | ⟨k1, -⟩
  · rw [if_pos k1]
    exact hK1.kh (kh_lose (notin_H a1 (by rw [k3]; decide)))
  · rw [if_neg (by omega), if_pos k1]; exact hK1
  · rw [if_neg (by omega), if_neg (by omega), if_pos k1]; exact hK1.kh kh_arr
  · rw [if_neg (by omega), if_neg (by omega), if_neg (by omega)]; exact hK1
theorem K_lsts : ∀ (n : Nat) (S : zS) (w : Nat), zI S → zK S → zK (z_lsts n S w) := by
  intro n
  induction n with
  | zero => intro S w hI hK; exact hK
  | succ n ih =>
    intro S w hI hK
    unfold z_lsts
    split
    · exact hK
    · rename_i e
      exact ih _ w (I_lst hI e).1 (K_lst hI e hK)
