/-! What coming and doing leave as it was: the sort of the letter under way, the next free place, how many promises and WHENs there are -/
def zKp (S S2 : zS) : Prop := z_F S2 40 = z_F S 40 ∧ z_N S2 9 = z_N S 9 ∧ z_N S2 1 = z_N S 1 ∧ z_N S2 2 = z_N S 2
theorem zKp.rf {S : zS} : zKp S S := ⟨rfl, rfl, rfl, rfl⟩
theorem zKp.tr {S S2 S3 : zS} (h : zKp S S2) (h2 : zKp S2 S3) : zKp S S3 := ⟨h2.1.trans h.1, h2.2.1.trans h.2.1, h2.2.2.1.trans h.2.2.1, h2.2.2.2.trans h.2.2.2⟩
theorem zFr.kp {p : Nat} {S S2 : zS} (h : zFr p S S2) : zKp S S2 := ⟨h.2.1 40 (by omega) (by omega) (by omega) (by omega) (by omega) (by omega) (by omega), by rw [h.1], by rw [h.1], by rw [h.1]⟩
theorem zFw.kp {S S2 : zS} (h : zFw S S2) : zKp S S2 := ⟨h.2.1 40 (by omega), by rw [h.1], by rw [h.1], by rw [h.1]⟩
theorem kp_F {S : zS} {k i : Nat} {v : Int32} (hk : k ≠ 40 := by omega) : zKp S (zs_F S k i v) := ⟨funext (fun _ => zF_ne (Ne.symm hk)), rfl, rfl, rfl⟩
theorem kp_r {S : zS} {v : Int64} : zKp S (zs_r S v) := ⟨rfl, rfl, rfl, rfl⟩
theorem kp_u {S : zS} {v : Int32} : zKp S (zs_u S v) := ⟨rfl, rfl, rfl, rfl⟩
theorem kp_answer {S : zS} {hand : Option Nat} {t : Nat} {st v : Int32} : zKp S (z_answer S hand t st v) := by
  cases hand with
  | none => exact zKp.rf
  | some p => exact zFr_settle.kp
theorem kp_cell {S : zS} {hand : Option Nat} {t : Nat} {act n : Int32} : zKp S (z_cell S hand t act n) := by
  have key : ∀ r, zKp S (z_cell1 (zs_r S r) hand t act n) := by
    intro r
    refine (kp_r (v := r)).tr ?_
    unfold z_cell1
    split
    · exact kp_answer
    · split
      · exact (kp_F (k := 3)).tr kp_answer
      · split
        · exact (kp_F (k := 3)).tr kp_answer
        · split
          · exact (kp_F (k := 3)).tr kp_answer
          · split
            · exact kp_answer
            · exact kp_answer
  exact key _
theorem kp_move {S : zS} {p t : Nat} {n : Int32} : zKp S (z_move S p t n) := by
  unfold z_move
  split
  · exact zFr_settle.kp
  · split
    · exact zFr_settle.kp
    · exact ((kp_F (k := 3)).tr ((kp_F (k := 17)).tr (kp_F (k := 20)))).tr zFr_send.kp
theorem kp_purse {S : zS} {hand : Option Nat} {t : Nat} {act n : Int32} : zKp S (z_purse S hand t act n) := by
  have key : ∀ r, zKp S (z_purse1 (zs_r S r) hand t act n) := by
    intro r
    refine (kp_r (v := r)).tr ?_
    unfold z_purse1
    split
    · exact kp_answer
    · split
      · exact kp_answer
      · split
        · cases hand with
          | none => exact zKp.rf
          | some p => exact kp_move
        · exact kp_cell
  exact key _
theorem kp_new {S : zS} {h k n g a : Int32} : zKp S (z_new S h k n g a) := by
  refine ⟨funext (fun j => ?_), rfl, rfl, rfl⟩
  rw [zF_new]
  repeat rw [if_neg (by omega)]
theorem kp_maker {S : zS} {hand : Option Nat} {t : Nat} {act n : Int32} : zKp S (z_maker S hand t act n) := by
  have key : ∀ r, zKp S (z_maker1 (zs_r S r) hand t act n) := by
    intro r
    refine (kp_r (v := r)).tr ?_
    unfold z_maker1
    split
    · exact kp_answer
    · split
      · exact kp_answer
      · split
        · exact kp_answer
        · split
          · exact kp_answer
          · exact ((kp_F (k := 3)).tr kp_new).tr kp_answer
  exact key _
theorem kp_guard {S : zS} {hand : Option Nat} {t : Nat} {act n : Int32} : zKp S (z_guard S hand t act n) := by
  have key : ∀ r, zKp S (z_guard1 (zs_r S r) hand t act n) := by
    intro r
    refine (kp_r (v := r)).tr ?_
    unfold z_guard1
    split
    · exact kp_answer
    · split
      · exact kp_answer
      · cases hand with
        | none => exact zFw_sw.kp
        | some p => exact zFr_send.kp
  exact key _
theorem kp_switch {S : zS} {hand : Option Nat} {t : Nat} {act n : Int32} : zKp S (z_switch S hand t act n) := by
  have key : ∀ r, zKp S (z_switch1 (zs_r S r) hand t act n) := by
    intro r
    refine (kp_r (v := r)).tr ?_
    unfold z_switch1
    split
    · exact kp_answer
    · exact kp_guard
  exact key _
theorem kp_frees {t : Nat} {v : Int32} : ∀ (l : List Nat) (S : zS), zKp S (z_frees S l t v) := by
  intro l
  induction l with
  | nil => intro S; exact zKp.rf
  | cons a l ih => intro S; exact zFr_settle.kp.tr (ih _)
theorem kp_hold {S : zS} {p t : Nat} : zKp S (z_hold S p t) := by
  refine ⟨funext (fun j => ?_), rfl, rfl, rfl⟩
  rw [zF_hold, if_neg (by omega), if_neg (by omega)]
theorem kp_joiner {S : zS} {hand : Option Nat} {t : Nat} {act : Int32} : zKp S (z_joiner S hand t act) := by
  have key : ∀ r, zKp S (z_joiner1 (zs_r S r) hand t act) := by
    intro r
    refine (kp_r (v := r)).tr ?_
    unfold z_joiner1
    split
    · cases hand with
      | none => exact zKp.rf
      | some p =>
        show zKp _ (if _ then _ else _)
        split
        · exact kp_hold
        · exact kp_hold.tr ((kp_F (k := 8)).tr (kp_frees _ _))
    · split
      · exact kp_answer
      · split
        · exact kp_answer
        · exact kp_answer
  exact key _
theorem kp_sleeper {S : zS} {hand : Option Nat} {t : Nat} {act : Int32} : zKp S (z_sleeper S hand t act) := by
  have key : ∀ r, zKp S (z_sleeper1 (zs_r S r) hand t act) := by
    intro r
    refine (kp_r (v := r)).tr ?_
    unfold z_sleeper1
    split
    · cases hand with
      | none => exact zKp.rf
      | some p => exact kp_hold
    · exact kp_joiner
  exact key _
theorem kp_hear {S : zS} {hand : Option Nat} {t : Nat} {act n : Int32} : zKp S (z_hear S hand t act n) := by
  have key : ∀ r, zKp S (z_hear1 (zs_u S r) hand t act n) := by
    intro r
    refine (kp_u (v := r)).tr ?_
    unfold z_hear1
    split
    · exact kp_cell
    · split
      · exact kp_purse
      · split
        · exact kp_maker
        · split
          · exact kp_guard
          · split
            · exact kp_switch
            · split
              · exact kp_joiner
              · exact kp_sleeper
  exact key _
theorem kp_come {S : zS} {l : zL} : zKp S (z_come S l) := by
  unfold z_come
  split
  · exact ⟨rfl, rfl, rfl, rfl⟩
  · split
    · exact zFr_arr.kp
    · split
      · split
        · exact (kp_F (k := 20)).tr kp_hear
        · exact kp_hear
      · split
        · exact zKp.rf
        · split
          · refine ⟨funext (fun j => ?_), rfl, rfl, rfl⟩
            show xu_2 (z_F S) 16 l.2.1 2 40 j = _
            unfold xu_2
            rw [if_neg (by omega)]
          · exact zFr_go.kp
theorem kp_gos {h : Nat} {st v : Int32} : ∀ (l : List Nat) (S : zS), zKp S (z_gos S l h st v) := by
  intro l
  induction l with
  | nil => intro S; exact zKp.rf
  | cons a l ih => intro S; exact zFr_go.kp.tr (ih _)
theorem kp_one {S : zS} {p : Nat} {st v : Int32} : zKp S (z_one S p st v) := by
  rw [one_eq]
  have h2 : zKp S (z_one2 S p st v) := ((kp_F (k := 11)).tr (kp_F (k := 12))).tr (kp_gos _ _)
  have h3 : zKp S (z_one3 S p st v) := by
    unfold z_one3
    split
    · exact h2
    · exact h2.tr zFr_ansA.kp
  exact h3.tr zFw_pws.kp
theorem kp_all : ∀ (n : Nat) (S : zS), zKp S (z_all n S) := by
  intro n
  induction n with
  | zero => intro S; exact zKp.rf
  | succ n ih =>
    intro S
    unfold z_all
    split
    · exact zKp.rf
    · rename_i d ds e
      have h0 : zKp S (zs_D S ds) := ⟨rfl, rfl, rfl, rfl⟩
      exact (h0.tr kp_one).tr (ih _)
theorem kp_off {S : zS} {w : Nat} {l : zL} {ls : List zL} : z_N (z_off S w l ls) = z_N S ∧ z_F (z_off S w l ls) 40 0 = z_lk l := ⟨rfl, rfl⟩
-- a letter comes
theorem m_back {m : Nat} {τ : xS} {S : zS} {c w : Nat} {l : zL} {Q : xS → Prop} (hR : zRM m τ S 0 c) (hI : zI S) (hl : zLok S w l) (hf : ¬ l.1 = 2 → zFree S l.2.1) (h1 : l.1 = 1 ∨ l.1 = 3) (st v : Int32) (hz : zval S st v) (k : ∀ τ2, zRM m τ2 (if l.1 = 1 then z_due S l.2.1 st v else z_arr S l.2.1 st v) 0 c → Q τ2) : wp_X7_comesBack τ m (nI l.2.1) st v (z_lb l) Q := by
  have hd := zI_due hI
  unfold wp_X7_comesBack
  unfold z_lb
  by_cases e : l.1 = 1
  · rw [if_pos e] at k
    rw [if_neg (by omega)]
    refine ⟨fun _ => ?_, fun z => absurd rfl z⟩
    exact m_due hR (by omega) k
  · rw [if_neg e] at k
    have e3 : l.1 = 3 := by omega
    rw [if_pos e3]
    refine ⟨fun z => absurd z (by decide), fun _ => ?_⟩
    rcases hl with ⟨k1, -⟩ | ⟨k1, -⟩ | ⟨k1, k2, k3, k4, k5⟩ | ⟨k1, -⟩
    · omega
    · omega
    · exact m_arr hR hI (hf (by omega)) k4 hz k
    · omega
theorem lval {S : zS} {w : Nat} {l : zL} (hl : zLok S w l) (h1 : l.1 = 1 ∨ l.1 = 3) : zval S l.2.2.2.2.1 l.2.2.2.2.2 := by
  rcases hl with ⟨k1, -⟩ | ⟨k1, k2, k3, k4, k5, k6, k7, k8⟩ | ⟨k1, k2, k3, k4, k5, k6, k7, k8, k9, k10⟩ | ⟨k1, -⟩
  · omega
  · exact k8
  · exact k10
  · omega
theorem oi_neg {t : Nat} (h : t < 1000) : ¬ zOI (some t) < 0 := by
  show ¬ nI t < 0
  rw [← nI_0, nI_ltI (by omega) (by omega)]; omega
theorem st_I2 {m : Nat} {τ τ2 : xS} {S : zS} {k0 c f : Nat} {v : Int32} (h : zRM m τ S k0 c) (e : τ2 = xs_I τ f m v) (hf : 495 ≤ f ∧ f ≠ 498) : zRM m τ2 S k0 c := by subst e; exact m_I h hf
theorem come_t {S : zS} {l : zL} {t : Nat} (h1 : ¬ l.1 = 1) (h3 : ¬ l.1 = 3) (et : l.2.2.1 = some t) : z_come S l = if l.1 = 0 then z_hear (zs_F S 20 l.2.1 (-1)) (some l.2.1) t (z_F S 17 l.2.1) (z_F S 18 l.2.1) else z_hear S none t 2 l.2.2.2.2.1 := by
  unfold z_come
  rw [if_neg h1, if_neg h3, et]
theorem come_q {S : zS} {l : zL} {q : Nat} (h1 : ¬ l.1 = 1) (h3 : ¬ l.1 = 3) (et : l.2.2.1 = none) (eq : l.2.2.2.1 = some q) : z_come S l = if z_F S 11 q = 0 then z_wait S l.2.1 q else z_go S l.2.1 (z_hm S q) (z_F S 11 q) (z_F S 12 q) := by
  unfold z_come
  rw [if_neg h1, if_neg h3, et, eq]
theorem m_toThing {m : Nat} {τ : xS} {S : zS} {c w t : Nat} {l : zL} {Q : xS → Prop} (hc : c + 1 < 2 ^ 31) (hR : zRM m τ S 0 c) (hI : zI S) (hl : zLok S w l) (hf : ¬ l.1 = 2 → zFree S l.2.1) (hc2 : l.1 = 2 → z_c2 S + 1 ≤ z_ps S) (et : l.2.2.1 = some t) (ho : zOut m τ l) (k : ∀ τ2 c2, c ≤ c2 → c2 ≤ c + 1 → zRM m τ2 (z_come S l) 0 c2 → Q τ2) : wp_X7_comesToThing τ m Q := by
  have b := hI.1.1
  obtain ⟨o1, o2, o3, o4, o5, o6, o7⟩ := ho
  have hl0 := hl
  unfold wp_X7_comesToThing
  rw [o1, o2]
  rw [et] at o3
  rcases hl with ⟨k1, k2, k3, k4, k5, k6⟩ | ⟨k1, k2, k3, k4, k5, k6, k7, k8⟩ | ⟨k1, k2, k3, k4, k5, k6, k7, k8, k9⟩ | ⟨k1, k2, ⟨t2, k3, k4⟩, k5, k6⟩
  · have e0 : z_lk l = 0 := by unfold z_lk; rw [k1]; rfl
    have e1 : z_lp l = nI l.2.1 := by unfold z_lp; rw [if_neg (by omega)]
    rw [come_t (by omega) (by omega) et, if_pos k1] at k
    obtain ⟨i1, i2⟩ := zHn_msg hI (hf (by omega)) hl0 k1 rfl et
    have hp := k2
    have hn : ¬ nI l.2.1 < 0 := oi_neg (t := l.2.1) (by omega)
    have hv : vp_in (nI l.2.1) 100 := vpI (by omega)
    have cp : (nI l.2.1).toNatClampNeg = l.2.1 := cl40 (by omega)
    rw [e0, e1]
    refine ⟨fun _ => ?_, fun z => absurd rfl z⟩
    unfold wb_X7_comesToThing_17
    intro τ1 s1
    have R1 := st_I2 hR s1 (by omega)
    obtain ⟨A1, -, -, I1⟩ := st_I s1
    rw [I1, if_pos rfl, cp]
    refine ⟨fun z => absurd z hn, fun _ => ⟨hv, ?_⟩⟩
    unfold wb_X7_comesToThing_41
    rw [rdF R1 (k := 17)]
    intro τ2 s2
    have R2 := st_I2 R1 s2 (by omega)
    obtain ⟨A2, -, -, I2⟩ := st_I s2
    rw [I2, if_neg (by omega), I1, if_pos rfl, cp]
    refine ⟨fun z => absurd z hn, fun _ => ⟨hv, ?_⟩⟩
    unfold wb_X7_comesToThing_68
    rw [rdF R2 (k := 18)]
    intro τ3 s3
    have R3 := st_I2 R2 s3 (by omega)
    obtain ⟨A3, -, -, I3⟩ := st_I s3
    rw [I3, if_neg (by omega), I2, if_neg (by omega), I1, if_pos rfl, cp]
    refine ⟨fun z => absurd z hn, fun _ => ⟨hv, ?_⟩⟩
    intro τ4 s4
    have R4 := m_F2 R3 s4
    have I4 := (st_a s4).1
    unfold wb_X7_comesToThing_88
    rw [I4, I3, if_neg (by omega), I2, if_neg (by omega), I1, if_neg (by omega), o3]
    refine m_hears hc R4 i1 i2 ⟨?_, ?_, ?_⟩ k
    · rw [I4, I3, if_neg (by omega), I2, if_neg (by omega), I1, if_pos rfl]; rfl
    · rw [I4, I3, if_neg (by omega), I2, if_pos rfl]
    · rw [I4, I3, if_pos rfl]
  · rw [et] at k6; cases k6
  · rw [et] at k8; cases k8
  · have e0 : z_lk l = 2 := by unfold z_lk; rw [k1]; rfl
    rw [come_t (by omega) (by omega) et, if_neg (by omega)] at k
    rw [et] at k4; cases k4
    rw [e0]
    refine ⟨fun z => absurd z (by decide), fun _ => ?_⟩
    unfold wb_X7_comesToThing_17
    intro τ1 s1
    have R1 := st_I2 hR s1 (by omega)
    obtain ⟨A1, -, -, I1⟩ := st_I s1
    rw [I1, if_pos rfl]
    refine ⟨fun _ => ?_, fun z => absurd (by decide) z⟩
    unfold wb_X7_comesToThing_41
    intro τ2 s2
    have R2 := st_I2 R1 s2 (by omega)
    obtain ⟨A2, -, -, I2⟩ := st_I s2
    rw [I2, if_neg (by omega), I1, if_pos rfl]
    refine ⟨fun _ => ?_, fun z => absurd (by decide) z⟩
    unfold wb_X7_comesToThing_68
    intro τ3 s3
    have R3 := st_I2 R2 s3 (by omega)
    obtain ⟨A3, -, -, I3⟩ := st_I s3
    rw [I3, if_neg (by omega), I2, if_neg (by omega), I1, if_pos rfl]
    refine ⟨fun _ => ?_, fun z => absurd (by decide) z⟩
    unfold wb_X7_comesToThing_88
    rw [I3, if_neg (by omega), I2, if_neg (by omega), I1, if_neg (by omega), o3]
    refine m_hears hc R3 hI ⟨fun q e => (by cases e), k3, fun q e => (by cases e), fun _ => ⟨hc2 k1, rfl⟩⟩ ⟨?_, ?_, ?_⟩ k
    · rw [I3, if_neg (by omega), I2, if_neg (by omega), I1, if_pos rfl]; rfl
    · rw [I3, if_neg (by omega), I2, if_pos rfl]
    · rw [I3, if_pos rfl, I2, if_neg (by omega), I1, if_neg (by omega), o5]
theorem m_toPromise {m : Nat} {τ : xS} {S : zS} {c w : Nat} {l : zL} {Q : xS → Prop} (hc : c + 1 < 2 ^ 31) (hR : zRM m τ S 0 c) (hI : zI S) (hl : zLok S w l) (hf : ¬ l.1 = 2 → zFree S l.2.1) (h13 : ¬ l.1 = 1 ∧ ¬ l.1 = 3) (et : l.2.2.1 = none) (ho : zOut m τ l) (k : ∀ τ2 c2, c ≤ c2 → c2 ≤ c + 1 → zRM m τ2 (z_come S l) 0 c2 → Q τ2) : wp_X7_comesToPromise τ m Q := by
  have b := hI.1.1
  obtain ⟨o1, o2, o3, o4, o5, o6, o7⟩ := ho
  unfold wp_X7_comesToPromise
  rw [o2, o4]
  rcases hl with ⟨k1, k2, k3, k4, k5, k6⟩ | ⟨k1, -⟩ | ⟨k1, -⟩ | ⟨k1, k2, ⟨t2, k3, k4⟩, k5, k6⟩
  · rcases k5 with ⟨t2, z1, z2, z3⟩ | ⟨q, z1, z2, z3, z4⟩
    · rw [et] at z2; cases z2
    · rw [come_q h13.1 h13.2 et z3] at k
      have kk := k
      have e1 : z_lp l = nI l.2.1 := by unfold z_lp; rw [if_neg (by omega)]
      have eq : zOI l.2.2.2.1 = nI q := by rw [z3]; rfl
      have hv : vp_in (nI l.2.1) 100 := vpI (by omega)
      have hq : vp_in (nI q) 100 := vpI (by omega)
      rw [e1, eq, cl40 (by omega), cl40 (by omega), rdF hR (k := 11), rdF hR (k := 10), rdF hR (k := 12)]
      refine ⟨hq, fun z => ⟨hv, ?_⟩, fun z => ⟨hq, hq, hq, ?_⟩⟩
      · rw [if_pos z] at kk
        intro τ1 s1
        have I1 := (st_a s1).1
        refine ⟨hv, ?_⟩
        intro τ2 s2
        have I2 := (st_a s2).1
        refine ⟨hv, ?_⟩
        intro τ3 s3
        have I3 := (st_a s3).1
        intro τ4 s4
        have h472 : xh_I τ 472 m = nI c := hR.2.2.1.choose_spec.choose_spec.2.1
        rw [I2, I1, h472] at s3
        rw [I3, I2, I1, h472, nI_1] at s4
        have f1 := hf (by omega)
        refine kk τ4 (c + 1) (by omega) (by omega) (m_keep hR f1.1 ⟨by rw [k3]; decide, by rw [k3]; decide⟩ (by omega) s1 s2 s3 s4 ?_ (Or.inr rfl))
        unfold z_wait
        rfl
      · rw [if_neg z] at kk
        have hm := hI.1.2.2.1 q z1
        rw [hm.2.1.1]
        exact m_go hR hI (Nat.zero_le _) (hf (by omega)) z4 ((hI.2.2.2.2.2.2.2.2.2.2.2 q z1).2 z) hm.2.1.2 (fun τ2 => kk τ2 c (by omega) (by omega))
  · omega
  · omega
  · rw [et] at k4; cases k4
