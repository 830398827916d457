/-! The next free place is nobody's business: every function of the state keeps it as it was -/
theorem zq_F {S : zS} {n : Nat} : z_F (zs_N S 9 n) = z_F S := rfl
theorem zq_u {S : zS} {n : Nat} : z_u (zs_N S 9 n) = z_u S := rfl
theorem zq_r {S : zS} {n : Nat} : z_r (zs_N S 9 n) = z_r S := rfl
theorem zq_W {S : zS} {n : Nat} : z_W (zs_N S 9 n) = z_W S := rfl
theorem zq_H {S : zS} {n : Nat} : z_H (zs_N S 9 n) = z_H S := rfl
theorem zq_Q {S : zS} {n : Nat} : z_Q (zs_N S 9 n) = z_Q S := rfl
theorem zq_D {S : zS} {n : Nat} : z_D (zs_N S 9 n) = z_D S := rfl
theorem zq_N0 {S : zS} {n : Nat} : z_N (zs_N S 9 n) 0 = z_N S 0 := rfl
theorem zq_N1 {S : zS} {n : Nat} : z_N (zs_N S 9 n) 1 = z_N S 1 := rfl
theorem zq_N2 {S : zS} {n : Nat} : z_N (zs_N S 9 n) 2 = z_N S 2 := rfl
theorem zq_sF {S : zS} {n k i : Nat} {v : Int32} : zs_F (zs_N S 9 n) k i v = zs_N (zs_F S k i v) 9 n := rfl
theorem zq_su {S : zS} {n : Nat} {v : Int32} : zs_u (zs_N S 9 n) v = zs_N (zs_u S v) 9 n := rfl
theorem zq_sr {S : zS} {n : Nat} {v : Int64} : zs_r (zs_N S 9 n) v = zs_N (zs_r S v) 9 n := rfl
theorem zq_sW {S : zS} {n w : Nat} {l : List zL} : zs_W (zs_N S 9 n) w l = zs_N (zs_W S w l) 9 n := rfl
theorem zq_sD {S : zS} {n : Nat} {d : List (Nat × Int32 × Int32)} : zs_D (zs_N S 9 n) d = zs_N (zs_D S d) 9 n := rfl
theorem zq_sN {S : zS} {n k v : Nat} (h : ¬ k = 9) : zs_N (zs_N S 9 n) k v = zs_N (zs_N S k v) 9 n := by
  have e : va_up (va_up (z_N S) 9 n) k v = va_up (va_up (z_N S) k v) 9 n := by
    funext i
    unfold va_up
    by_cases h1 : i = k
    · have : ¬ i = 9 := by omega
      rw [if_pos h1, if_neg this, if_pos h1]
    · rw [if_neg h1]
      by_cases h2 : i = 9
      · rw [if_pos h2, if_pos h2]
      · rw [if_neg h2, if_neg h2, if_neg h1]
  show (z_F S, va_up (va_up (z_N S) 9 n) k v, z_u S, z_r S, z_W S, z_H S, z_Q S, z_D S) = _
  rw [e]; rfl
theorem zq_w {S : zS} {n p : Nat} {v : Int32} : z_w (zs_N S 9 n) p v = zs_N (z_w S p v) 9 n := rfl
theorem zq_hold {S : zS} {n p t : Nat} : z_hold (zs_N S 9 n) p t = zs_N (z_hold S p t) 9 n := rfl
theorem zq_wait {S : zS} {n p q : Nat} : z_wait (zs_N S 9 n) p q = zs_N (z_wait S p q) 9 n := rfl
theorem zq_post {S : zS} {n w : Nat} {l : zL} : z_post (zs_N S 9 n) w l = zs_N (z_post S w l) 9 n := rfl
theorem zq_due {S : zS} {n p : Nat} {st v : Int32} : z_due (zs_N S 9 n) p st v = zs_N (z_due S p st v) 9 n := rfl
theorem zq_hs {S : zS} {n t : Nat} : z_hs (zs_N S 9 n) t = z_hs S t := rfl
theorem zq_ak {S : zS} {n t : Nat} : z_ak (zs_N S 9 n) t = z_ak S t := rfl
theorem zq_hm {S : zS} {n t : Nat} : z_hm (zs_N S 9 n) t = z_hm S t := rfl
theorem zq_ite {c : Prop} [Decidable c] {a b : zS} {n : Nat} : zs_N (if c then a else b) 9 n = if c then zs_N a 9 n else zs_N b 9 n := by
  by_cases h : c
  · rw [if_pos h, if_pos h]
  · rw [if_neg h, if_neg h]
theorem zq_ifc {α : Type} {c : Prop} {d1 d2 : Decidable c} {a b : α} : @ite α c d1 a b = @ite α c d2 a b := by
  by_cases h : c
  · rw [if_pos h, if_pos h]
  · rw [if_neg h, if_neg h]
theorem zq_sw {S : zS} {n h t : Nat} {v : Int32} : z_sw (zs_N S 9 n) h t v = zs_N (z_sw S h t v) 9 n := by
  simp only [z_sw, zq_F, zq_hs, zq_post, zq_ite]
  exact zq_ifc
theorem zq_pw {S : zS} {n w : Nat} {st v : Int32} : z_pw (zs_N S 9 n) w st v = zs_N (z_pw S w st v) 9 n := by
  simp only [z_pw, zq_F, zq_sF, zq_sw]
theorem zq_fold {α : Type} {n : Nat} (f : zS → α → zS) (hf : ∀ S a, f (zs_N S 9 n) a = zs_N (f S a) 9 n) : ∀ (l : List α) (S : zS), l.foldl f (zs_N S 9 n) = zs_N (l.foldl f S) 9 n := by
  intro l
  induction l with
  | nil => intro S; rfl
  | cons a l ih => intro S; rw [List.foldl_cons, List.foldl_cons, hf, ih]
theorem zq_pws {S : zS} {n p h : Nat} {st v : Int32} : z_pws (zs_N S 9 n) p h st v = zs_N (z_pws S p h st v) 9 n := by
  unfold z_pws
  rw [zq_N2]
  exact zq_fold _ (fun S w => by simp only [zq_F, zq_pw, zq_ite]) _ _
theorem zq_arr {S : zS} {n p : Nat} {st v : Int32} : z_arr (zs_N S 9 n) p st v = zs_N (z_arr S p st v) 9 n := by
  simp only [z_arr, zq_sF, zq_ak, zq_pws]
theorem zq_ansH {S : zS} {n h p : Nat} {st v : Int32} : z_ansH (zs_N S 9 n) h p st v = zs_N (z_ansH S h p st v) 9 n := by
  simp only [z_ansH, zq_F, zq_hm, zq_sF, zq_post, zq_due, zq_ite]
  exact zq_ifc
theorem zq_ansA {S : zS} {n h p : Nat} {st v : Int32} : z_ansA (zs_N S 9 n) h p st v = zs_N (z_ansA S h p st v) 9 n := by
  simp only [z_ansA, zq_F, zq_ak, zq_sF, zq_post, zq_arr, zq_ite]
theorem zq_settle {S : zS} {n p h : Nat} {st v : Int32} : z_settle (zs_N S 9 n) p h st v = zs_N (z_settle S p h st v) 9 n := by
  simp only [z_settle, zq_hm, zq_w, zq_due, zq_ansH, zq_ite]
theorem zq_unmove {S : zS} {n p : Nat} : z_unmove (zs_N S 9 n) p = zs_N (z_unmove S p) 9 n := by
  simp only [z_unmove, zq_F, zq_sF, zq_ite]
  exact zq_ifc
theorem zq_lose {S : zS} {n p h : Nat} : z_lose (zs_N S 9 n) p h = zs_N (z_lose S p h) 9 n := by
  simp only [z_lose, zq_unmove, zq_settle]
theorem zq_send {S : zS} {n p h g : Nat} {th asked : Option Nat} : z_send (zs_N S 9 n) p h g th asked = zs_N (z_send S p h g th asked) 9 n := by
  simp only [z_send, zq_F, zq_sF, zq_w, zq_post, zq_lose, zq_ite]
theorem zq_sendT {S : zS} {n p h t : Nat} : z_sendT (zs_N S 9 n) p h t = zs_N (z_sendT S p h t) 9 n := by
  simp only [z_sendT, zq_hs, zq_send]
theorem zq_go {S : zS} {n p h : Nat} {st v : Int32} : z_go (zs_N S 9 n) p h st v = zs_N (z_go S p h st v) 9 n := by
  simp only [z_go, zq_sendT, zq_settle, zq_ite]
theorem zq_gos {S : zS} {n h : Nat} {l : List Nat} {st v : Int32} : z_gos (zs_N S 9 n) l h st v = zs_N (z_gos S l h st v) 9 n := by
  unfold z_gos
  exact zq_fold _ (fun S w => zq_go) _ _
theorem zq_one {S : zS} {n p : Nat} {st v : Int32} : z_one (zs_N S 9 n) p st v = zs_N (z_one S p st v) 9 n := by
  rw [one_eq, one_eq]
  have e1 : z_one1 (zs_N S 9 n) p st v = zs_N (z_one1 S p st v) 9 n := rfl
  have e2 : z_one2 (zs_N S 9 n) p st v = zs_N (z_one2 S p st v) 9 n := by
    unfold z_one2
    rw [e1, zq_Q, zq_hm, zq_gos]
  have e3 : z_one3 (zs_N S 9 n) p st v = zs_N (z_one3 S p st v) 9 n := by
    unfold z_one3
    rw [e2, zq_F, zq_hm, zq_ansA, zq_ite]
  rw [e3, zq_hm, zq_pws]
theorem zq_all {n : Nat} : ∀ (f : Nat) (S : zS), z_all f (zs_N S 9 n) = zs_N (z_all f S) 9 n := by
  intro f
  induction f with
  | zero => intro S; rfl
  | succ f ih =>
    intro S
    cases e : z_D S with
    | nil => rw [all_nil (S := zs_N S 9 n) e, all_nil e]
    | cons d ds =>
      have st : ∀ T : zS, z_D T = d :: ds → z_all (f + 1) T = z_all f (z_one (zs_D T ds) d.1 d.2.1 d.2.2) := by
        intro T eT
        show (match z_D T with
          | [] => T
          | d :: ds => z_all f (z_one (zs_D T ds) d.1 d.2.1 d.2.2)) = _
        rw [eT]
      rw [st S e, st (zs_N S 9 n) e, zq_sD, zq_one, ih]
theorem zq_answer {S : zS} {n : Nat} {hand : Option Nat} {t : Nat} {st v : Int32} : z_answer (zs_N S 9 n) hand t st v = zs_N (z_answer S hand t st v) 9 n := by
  cases hand with
  | none => rfl
  | some p =>
    show z_settle (zs_N S 9 n) p (z_hs (zs_N S 9 n) t) st v = zs_N (z_settle S p (z_hs S t) st v) 9 n
    rw [zq_hs, zq_settle]
theorem zq_cell1 {S : zS} {n : Nat} {hand : Option Nat} {t : Nat} {act v : Int32} : z_cell1 (zs_N S 9 n) hand t act v = zs_N (z_cell1 S hand t act v) 9 n := by
  simp only [z_cell1, zq_F, zq_sF, zq_answer, zq_ite]
theorem zq_cell {S : zS} {n : Nat} {hand : Option Nat} {t : Nat} {act v : Int32} : z_cell (zs_N S 9 n) hand t act v = zs_N (z_cell S hand t act v) 9 n := by
  unfold z_cell
  rw [zq_r, zq_sr, zq_cell1]
theorem zq_move {S : zS} {n p t : Nat} {v : Int32} : z_move (zs_N S 9 n) p t v = zs_N (z_move S p t v) 9 n := by
  simp only [z_move, zq_F, zq_hs, zq_sF, zq_settle, zq_sendT, zq_ite]
theorem zq_purse1 {S : zS} {n : Nat} {hand : Option Nat} {t : Nat} {act v : Int32} : z_purse1 (zs_N S 9 n) hand t act v = zs_N (z_purse1 S hand t act v) 9 n := by
  cases hand with
  | none => simp only [z_purse1, zq_F, zq_answer, zq_cell, zq_ite]
  | some p => simp only [z_purse1, zq_F, zq_answer, zq_cell, zq_move, zq_ite]
theorem zq_purse {S : zS} {n : Nat} {hand : Option Nat} {t : Nat} {act v : Int32} : z_purse (zs_N S 9 n) hand t act v = zs_N (z_purse S hand t act v) 9 n := by
  unfold z_purse
  rw [zq_r, zq_sr, zq_purse1]
theorem zq_new {S : zS} {n : Nat} {h k v g a : Int32} : z_new (zs_N S 9 n) h k v g a = zs_N (z_new S h k v g a) 9 n := by
  simp only [z_new, zq_N0, zq_sF]
  exact zq_sN (by omega)
theorem zq_maker1 {S : zS} {n : Nat} {hand : Option Nat} {t : Nat} {act v : Int32} : z_maker1 (zs_N S 9 n) hand t act v = zs_N (z_maker1 S hand t act v) 9 n := by
  simp only [z_maker1, zq_F, zq_sF, zq_N0, zq_new, zq_answer, zq_ite]
theorem zq_maker {S : zS} {n : Nat} {hand : Option Nat} {t : Nat} {act v : Int32} : z_maker (zs_N S 9 n) hand t act v = zs_N (z_maker S hand t act v) 9 n := by
  unfold z_maker
  rw [zq_r, zq_sr, zq_maker1]
theorem zq_guard1 {S : zS} {n : Nat} {hand : Option Nat} {t : Nat} {act v : Int32} : z_guard1 (zs_N S 9 n) hand t act v = zs_N (z_guard1 S hand t act v) 9 n := by
  cases hand with
  | none => simp only [z_guard1, zq_F, zq_hs, zq_sw, zq_answer, zq_ite]
  | some p => simp only [z_guard1, zq_F, zq_hs, zq_sendT, zq_answer, zq_ite]
theorem zq_guard {S : zS} {n : Nat} {hand : Option Nat} {t : Nat} {act v : Int32} : z_guard (zs_N S 9 n) hand t act v = zs_N (z_guard S hand t act v) 9 n := by
  unfold z_guard
  rw [zq_r, zq_sr, zq_guard1]
theorem zq_switch1 {S : zS} {n : Nat} {hand : Option Nat} {t : Nat} {act v : Int32} : z_switch1 (zs_N S 9 n) hand t act v = zs_N (z_switch1 S hand t act v) 9 n := by
  simp only [z_switch1, zq_F, zq_guard, zq_answer, zq_ite]
theorem zq_switch {S : zS} {n : Nat} {hand : Option Nat} {t : Nat} {act v : Int32} : z_switch (zs_N S 9 n) hand t act v = zs_N (z_switch S hand t act v) 9 n := by
  unfold z_switch
  rw [zq_r, zq_sr, zq_switch1]
theorem zq_free {S : zS} {n t : Nat} {v : Int32} : z_free (zs_N S 9 n) t v = zs_N (z_free S t v) 9 n := by
  rw [free_eq, free_eq, zq_sF, zq_H]
  unfold z_frees
  exact zq_fold _ (fun S w => by rw [zq_hs, zq_settle]) _ _
theorem zq_sumN {S : zS} {n : Nat} {l : List Nat} : z_sumN (zs_N S 9 n) l = z_sumN S l := rfl
theorem zq_joiner1 {S : zS} {n : Nat} {hand : Option Nat} {t : Nat} {act : Int32} : z_joiner1 (zs_N S 9 n) hand t act = zs_N (z_joiner1 S hand t act) 9 n := by
  cases hand with
  | none => simp only [z_joiner1, zq_F, zq_answer, zq_ite]
  | some p => simp only [z_joiner1, zq_F, zq_H, zq_hold, zq_sumN, zq_free, zq_answer, zq_ite]
theorem zq_joiner {S : zS} {n : Nat} {hand : Option Nat} {t : Nat} {act : Int32} : z_joiner (zs_N S 9 n) hand t act = zs_N (z_joiner S hand t act) 9 n := by
  unfold z_joiner
  rw [zq_r, zq_sr, zq_joiner1]
theorem zq_sleeper1 {S : zS} {n : Nat} {hand : Option Nat} {t : Nat} {act : Int32} : z_sleeper1 (zs_N S 9 n) hand t act = zs_N (z_sleeper1 S hand t act) 9 n := by
  cases hand with
  | none => simp only [z_sleeper1, zq_joiner, zq_ite]
  | some p => simp only [z_sleeper1, zq_hold, zq_joiner, zq_ite]
theorem zq_sleeper {S : zS} {n : Nat} {hand : Option Nat} {t : Nat} {act : Int32} : z_sleeper (zs_N S 9 n) hand t act = zs_N (z_sleeper S hand t act) 9 n := by
  unfold z_sleeper
  rw [zq_r, zq_sr, zq_sleeper1]
theorem zq_hear1 {S : zS} {n : Nat} {hand : Option Nat} {t : Nat} {act v : Int32} : z_hear1 (zs_N S 9 n) hand t act v = zs_N (z_hear1 S hand t act v) 9 n := by
  simp only [z_hear1, zq_F, zq_cell, zq_purse, zq_maker, zq_guard, zq_switch, zq_joiner, zq_sleeper, zq_ite]
theorem zq_hear {S : zS} {n : Nat} {hand : Option Nat} {t : Nat} {act v : Int32} : z_hear (zs_N S 9 n) hand t act v = zs_N (z_hear S hand t act v) 9 n := by
  unfold z_hear
  rw [zq_u, zq_su, zq_hear1]
theorem zq_come {S : zS} {n : Nat} {l : zL} : z_come (zs_N S 9 n) l = zs_N (z_come S l) 9 n := by
  unfold z_come
  cases e : l.2.2.1 with
  | some t => simp only [zq_F, zq_sF, zq_due, zq_arr, zq_hear, zq_ite]
  | none =>
    cases e2 : l.2.2.2.1 with
    | none => simp only [zq_due, zq_arr, zq_ite]
    | some q => simp only [zq_F, zq_hm, zq_due, zq_arr, zq_wait, zq_go, zq_ite]
theorem zq_dlv {S : zS} {n w : Nat} {l : zL} {ls : List zL} : z_dlv (zs_N S 9 n) w l ls = zs_N (z_dlv S w l ls) 9 n := by
  simp only [z_dlv, z_off, zq_sW, zq_sF, zq_come, zq_all]
theorem zq_lost {S : zS} {n h : Nat} {l : zL} : z_lost (zs_N S 9 n) l h = zs_N (z_lost S l h) 9 n := by
  simp only [z_lost, zq_lose, zq_due, zq_arr, zq_ite]
theorem zq_lst {S : zS} {n w : Nat} {l : zL} {ls : List zL} : z_lst (zs_N S 9 n) w l ls = zs_N (z_lst S w l ls) 9 n := by
  simp only [z_lst, z_off, zq_sW, zq_sF, zq_lost, zq_all]
theorem zq_lsts {n : Nat} : ∀ (f : Nat) (S : zS) (w : Nat), z_lsts f (zs_N S 9 n) w = zs_N (z_lsts f S w) 9 n := by
  intro f
  induction f with
  | zero => intro S w; rfl
  | succ f ih =>
    intro S w
    cases e : z_W S w with
    | nil =>
      have st : ∀ T : zS, z_W T w = [] → z_lsts (f + 1) T w = T := by
        intro T eT
        show (match z_W T w with
          | [] => T
          | l :: ls => z_lsts f (z_lst T w l ls) w) = _
        rw [eT]
      rw [st S e, st (zs_N S 9 n) e]
    | cons l ls => rw [lsts_step e, lsts_step (S := zs_N S 9 n) e, zq_lst, ih]
theorem zq_flow {n : Nat} : ∀ (f : Nat) (S : zS), zI S → z_flow f (zs_N S 9 n) = ((z_flow f S).1, zs_N (z_flow f S).2 9 n) := by
  intro f
  induction f with
  | zero => intro S _; rfl
  | succ f ih =>
    intro S hI
    cases e1 : z_fw S with
    | none =>
      have st : ∀ T : zS, z_fw T = none → z_flow (f + 1) T = (0, T) := by
        intro T eT
        show (match z_fw T with
          | none => (0, T)
          | some w => match z_W T w with
            | [] => (0, T)
            | l :: ls => ((z_flow f (z_dlv T w l ls)).1 + 1, (z_flow f (z_dlv T w l ls)).2)) = _
        rw [eT]
      rw [st S e1, st (zs_N S 9 n) e1]
    | some w =>
      cases e2 : z_W S w with
      | nil =>
        have st : ∀ T : zS, z_fw T = some w → z_W T w = [] → z_flow (f + 1) T = (0, T) := by
          intro T eT eW
          show (match z_fw T with
            | none => (0, T)
            | some w => match z_W T w with
              | [] => (0, T)
              | l :: ls => ((z_flow f (z_dlv T w l ls)).1 + 1, (z_flow f (z_dlv T w l ls)).2)) = _
          rw [eT]
          show (match z_W T w with
              | [] => (0, T)
              | l :: ls => ((z_flow f (z_dlv T w l ls)).1 + 1, (z_flow f (z_dlv T w l ls)).2)) = _
          rw [eW]
        rw [st S e1 e2, st (zs_N S 9 n) e1 e2]
      | cons l ls =>
        rw [flow_step e1 e2, flow_step (S := zs_N S 9 n) e1 e2, zq_dlv, ih _ (I_dlv hI e2).1]
theorem zq_va {N : Nat → Nat} {n k v : Nat} (h : ¬ k = 9) : va_up (va_up N 9 n) k v = va_up (va_up N k v) 9 n := by
  funext i
  unfold va_up
  by_cases h1 : i = k
  · have : ¬ i = 9 := by omega
    rw [if_pos h1, if_neg this, if_pos h1]
  · rw [if_neg h1]
    by_cases h2 : i = 9
    · rw [if_pos h2, if_pos h2]
    · rw [if_neg h2, if_neg h2, if_neg h1]
theorem zq_Nf {S : zS} {n : Nat} : z_N (zs_N S 9 n) = va_up (z_N S) 9 n := rfl
theorem zq_nask {S : zS} {n h g : Nat} {act v o : Int32} : z_nask (zs_N S 9 n) h g act v o = zs_N (z_nask S h g act v o) 9 n := by
  refine zS_ext ?_ ?_ (by rw [nask_u, zq_u, zq_u, nask_u]) (by rw [nask_r, zq_r, zq_r, nask_r]) (by rw [nask_W, zq_W, zq_W, nask_W]) (by rw [nask_H, zq_H, zq_H, nask_H]) (by rw [nask_Q, zq_Q, zq_Q, nask_Q]) (by rw [nask_D, zq_D, zq_D, nask_D])
  · funext f j
    rw [zq_F, zF_nask, zF_nask, zq_N1, zq_F]
  · rw [nask_N, zq_Nf, zq_Nf, nask_N]
    rw [show va_up (z_N S) 9 n 1 = z_N S 1 from rfl]
    exact zq_va (by omega)
theorem zq_g {S : zS} {n : Nat} {th pr : Option Nat} : za_g (zs_N S 9 n) th pr = za_g S th pr := rfl
theorem zq_ask {S : zS} {n a : Nat} {act v o : Int32} {th pr : Option Nat} : z_ask (zs_N S 9 n) a act v o th pr = zs_N (z_ask S a act v o th pr) 9 n := by
  simp only [z_ask, zq_g, zq_N1, zq_nask, zq_send, zq_all]
theorem zq_nwhen {S : zS} {n a q u : Nat} : z_nwhen (zs_N S 9 n) a q u = zs_N (z_nwhen S a q u) 9 n := by
  simp only [z_nwhen, zq_N2, zq_sF]
  exact zq_sN (by omega)
theorem zq_st {S : zS} {n q : Nat} {h : Int32} : z_st (zs_N S 9 n) q h = z_st S q h := rfl
theorem zq_vl {S : zS} {n q : Nat} {h : Int32} : z_vl (zs_N S 9 n) q h = z_vl S q h := rfl
theorem zq_when {S : zS} {n a q u : Nat} : z_when (zs_N S 9 n) a q u = zs_N (z_when S a q u) 9 n := by
  simp only [z_when, zq_st, zq_vl, zq_N2, zq_nwhen, zq_pw, zq_ite]
theorem zq_cuts {S : zS} {n i j : Nat} : z_cuts (zs_N S 9 n) i j = zs_N (z_cuts S i j) 9 n := by
  simp only [z_cuts, z_cut, zq_W, zq_sF, zq_lsts]
-- the calls
def zq (n : Nat) (r : Int32 × zS) : Int32 × zS := (r.1, zs_N r.2 9 n)
theorem zq_oite {c : Prop} [Decidable c] {a b : Int32 × zS} {n : Nat} : zq n (if c then a else b) = if c then zq n a else zq n b := by
  by_cases h : c
  · rw [if_pos h, if_pos h]
  · rw [if_neg h, if_neg h]
theorem zq_pair {n : Nat} {r : Int32} {S : zS} : zq n (r, S) = (r, zs_N S 9 n) := rfl
theorem zq_oThing {S : zS} {n : Nat} {h k v : Int32} : zo_thing (zs_N S 9 n) h k v = zq n (zo_thing S h k v) := by
  simp only [zo_thing, zq_N0, zq_new, zq_oite, zq_pair]
theorem zq_oGuard {S : zS} {n : Nat} {h t a tk : Int32} : zo_guard (zs_N S 9 n) h t a tk = zq n (zo_guard S h t a tk) := by
  simp only [zo_guard, zq_N0, zq_new, zq_oite, zq_pair]
theorem zq_oShut {S : zS} {n : Nat} {t is : Int32} : zo_shut (zs_N S 9 n) t is = zq n (zo_shut S t is) := by
  simp only [zo_shut, zq_N0]
  cases zix (z_N S 0) t with
  | none => rfl
  | some u =>
    simp only [zq_F, zq_sF, zq_oite, zq_pair]
    exact zq_ifc
theorem zq_oBack {S : zS} {n : Nat} {t : Int32} : zo_back (zs_N S 9 n) t = zq n (zo_back S t) := by
  simp only [zo_back, zq_N0]
  cases zix (z_N S 0) t with
  | none => rfl
  | some u =>
    simp only [zq_F, zq_sF, zq_oite, zq_pair]
    exact zq_ifc
theorem zq_oWake {S : zS} {n : Nat} {t v : Int32} : zo_wake (zs_N S 9 n) t v = zq n (zo_wake S t v) := by
  simp only [zo_wake, zq_N0]
  cases zix (z_N S 0) t with
  | none => rfl
  | some u => simp only [zq_F, zq_free, zq_all, zq_oite, zq_pair]
theorem zq_at {S : zS} {n : Nat} {k to : Int32} : za_t (zs_N S 9 n) k to = za_t S k to := rfl
theorem zq_ap {S : zS} {n : Nat} {k to : Int32} : za_p (zs_N S 9 n) k to = za_p S k to := rfl
theorem zq_akn {S : zS} {n : Nat} {pr : Option Nat} {h : Int32} : za_k (zs_N S 9 n) pr h = za_k S pr h := rfl
theorem zq_oAsk {S : zS} {n : Nat} {h k to act v o : Int32} : zo_ask (zs_N S 9 n) h k to act v o = zq n (zo_ask S h k to act v o) := by
  simp only [zo_ask, zq_N0, zq_N1, zq_at, zq_ap, zq_akn, zq_ask, zq_oite, zq_pair]
theorem zq_oWhen {S : zS} {n : Nat} {h p t : Int32} : zo_when (zs_N S 9 n) h p t = zq n (zo_when S h p t) := by
  simp only [zo_when, zq_F, zq_N0, zq_N1, zq_N2, zq_when, zq_oite, zq_pair]
theorem zq_oDeliver {S : zS} {n : Nat} {a b : Int32} : zo_deliver (zs_N S 9 n) a b = zq n (zo_deliver S a b) := by
  simp only [zo_deliver, zq_W]
  cases z_W S (4 * a.toNatClampNeg + b.toNatClampNeg) with
  | nil => simp only [zq_oite, zq_pair]
  | cons l ls => simp only [zq_dlv, zq_oite, zq_pair]
theorem zq_oFlow {S : zS} {n : Nat} {v : Int32} (hI : zI S) : zo_flow (zs_N S 9 n) v = zq n (zo_flow S v) := by
  simp only [zo_flow, zq_flow _ _ hI, zq_oite, zq_pair]
theorem zq_oCut {S : zS} {n : Nat} {a b : Int32} : zo_cut (zs_N S 9 n) a b = zq n (zo_cut S a b) := by
  simp only [zo_cut, zq_F, zq_W, zq_cuts, zq_oite, zq_pair]
theorem zq_oAgain {S : zS} {n : Nat} {a b : Int32} : zo_again (zs_N S 9 n) a b = zq n (zo_again S a b) := by
  unfold zo_again
  by_cases h1 : zix 4 a = none ∨ zix 4 b = none ∨ a = b
  · rw [if_pos h1, if_pos h1, zq_pair]
  · rw [if_neg h1, if_neg h1]
    by_cases h2 : z_F S 36 (4 * a.toNatClampNeg + b.toNatClampNeg) = 0
    · rw [if_pos h2, if_pos (show z_F (zs_N S 9 n) 36 (4 * a.toNatClampNeg + b.toNatClampNeg) = 0 from h2), zq_pair]
    · rw [if_neg h2, if_neg (show ¬ z_F (zs_N S 9 n) 36 (4 * a.toNatClampNeg + b.toNatClampNeg) = 0 from h2), zq_pair, zq_sF, zq_sF]
