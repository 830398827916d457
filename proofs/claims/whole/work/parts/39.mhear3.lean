theorem m_guard {m : Nat} {τ : xS} {S : zS} {c : Nat} {hand : Option Nat} {t : Nat} {act n : Int32} {Q : xS → Prop} (hR : zRM m τ S 0 c) (hI : zI S) (hf : zHf S hand) (ht : t < z_N S 0) (hk : z_F S 2 t = 3 ∨ z_F S 2 t = 4) (hh : zHd3 m τ hand act n) (k : ∀ τ2, zRM m τ2 (z_guard S hand t act n) 0 c → Q τ2) : wp_X7_guardHears τ m (nI t) Q := by
  have b := hI.1.1
  have hv : vp_in (nI t) 40 := vpI (by omega)
  unfold wp_X7_guardHears
  intro τ1 e1
  unfold z_guard at k
  have hR1 := m_r2 hR e1
  generalize z_r S + 1000 = rr at hR1 k
  have hI1 : zI (zs_r S rr) := I_r hI
  obtain ⟨g1, g2, g3⟩ := zHd3_L hh e1
  obtain ⟨⟨hs1, hs2⟩, -, hg, -⟩ := hI.1.2.1 t ht
  obtain ⟨g, hg1, hg2⟩ := hg hk
  have cnt := zI_cnt hI1
  rw [g2, g3, g1, cl40 (by omega), rdF hR1 (k := 6), rdF hR1 (k := 5), rdF hR1 (k := 1), rdF hR1 (k := 4), show z_F (zs_r S rr) 1 t = nI (z_hs S t) from hs1, show z_F (zs_r S rr) 4 t = nI g from hg2]
  unfold z_guard1 at k
  rw [show z_F (zs_r S rr) 4 t = nI g from hg2, cl40 (show g < 1000 by omega)] at k
  refine ⟨hv, fun e6 => ⟨hv, fun ea => ?_, fun na => ⟨fun hh0 => ⟨hv, hv, ?_⟩, fun hh0 => ⟨hv, hv, ?_⟩⟩⟩, fun n6 => ?_⟩
  · rw [if_neg (fun z => z e6), if_pos ea] at k
    exact m_answer hR1 hI1 hf ht g1 k
  · rw [if_neg (fun z => z e6), if_neg na] at k
    cases hand with
    | none => exact m_sw hR1 hI1.1 (by omega) hg1 hs2 k
    | some p => exact absurd hh0 (nI_pos (by have := (hf p rfl).1.1; omega))
  · rw [if_neg (fun z => z e6), if_neg na] at k
    cases hand with
    | none => exact absurd (by show (-9 : Int32) < 0; decide) hh0
    | some p =>
      obtain ⟨f1, f2, f3, f4⟩ := hf p rfl
      exact m_sendT hR1 hI1 (Nat.zero_le _) f1 hs2 hg1 k
  · rw [if_pos n6] at k
    exact m_answer hR1 hI1 hf ht g1 k
theorem m_switch {m : Nat} {τ : xS} {S : zS} {c : Nat} {hand : Option Nat} {t : Nat} {act n : Int32} {Q : xS → Prop} (hR : zRM m τ S 0 c) (hI : zI S) (hf : zHf S hand) (ht : t < z_N S 0) (hk : z_F S 2 t = 3 ∨ z_F S 2 t = 4) (hh : zHd3 m τ hand act n) (k : ∀ τ2, zRM m τ2 (z_switch S hand t act n) 0 c → Q τ2) : wp_X7_switchHears τ m (nI t) Q := by
  have b := hI.1.1
  have hv : vp_in (nI t) 40 := vpI (by omega)
  unfold wp_X7_switchHears
  intro τ1 e1
  unfold z_switch at k
  have hR1 := m_r2 hR e1
  generalize z_r S + 10000 = rr at hR1 k
  have hI1 : zI (zs_r S rr) := I_r hI
  have hh1 := zHd3_L hh e1
  rw [cl40 (by omega), rdF hR1 (k := 7)]
  unfold z_switch1 at k
  refine ⟨hv, fun e7 => ?_, fun n7 => ?_⟩
  · rw [if_neg (fun z => z e7)] at k
    exact m_guard hR1 hI1 hf ht hk hh1 k
  · rw [if_pos n7] at k
    exact m_answer hR1 hI1 hf ht hh1.1 k
theorem m_holds {m : Nat} {τ : xS} {S : zS} {c p t : Nat} {Q : xS → Prop} (hR : zRM m τ S 0 c) (hI : zI S) (hf : zHf S (some p)) (ht : t < z_N S 0) (hh : xh_I τ 495 m = zOI (some p)) (k : ∀ τ2, zRM m τ2 (z_hold S p t) 0 (c + 1) → Q τ2) : wp_X7_holds τ m (nI t) Q := by
  have b := hI.1.1
  obtain ⟨f1, f2, f3, f4⟩ := hf p rfl
  have hp := f1.1
  have hh' : xh_I τ 495 m = nI p := hh
  have hv : vp_in (nI t) 40 := vpI (by omega)
  have hvp : vp_in (nI p) 100 := vpI (by omega)
  have hpc : (nI p).toNatClampNeg = p := cl40 (by omega)
  have ic : xh_I τ 472 m = nI c := by
    obtain ⟨-, -, ⟨kb, sn, -, h2, -⟩, -⟩ := hR
    exact h2
  unfold wp_X7_holds
  rw [hh', hpc]
  refine ⟨hvp, ?_⟩
  intro τ1 e1
  have I1 := (st_a e1).1
  rw [I1, hh', hpc]
  refine ⟨hvp, ?_⟩
  intro τ2 e2
  have I2 := (st_a e2).1.trans I1
  rw [I2, hh', hpc, ic]
  refine ⟨hvp, ?_⟩
  intro τ3 e3
  have I3 := (st_a e3).1.trans I2
  rw [I3, ic, show nI c + 1 = nI (c + 1) from nI_1 _]
  intro τ4 e4
  have R4 := m_keep (S2 := (xu_2 (z_F S) 16 p 1, z_N S, z_u S, z_r S, z_W S, va_up (z_H S) t (z_H S t ++ [p]), z_Q S, z_D S)) hR hp (by rw [f4]; exact ⟨by decide, by decide⟩) (by omega) e1 e2 e3 e4 (by rw [if_pos rfl, if_neg (by decide)]) (Or.inl rfl)
  refine ⟨hv, hv, ?_⟩
  rw [cl40 (by omega), rdF R4 (k := 8)]
  intro τ5 e5
  exact k τ5 (m_F2 R4 e5)
theorem m_answersAll {m : Nat} {τ : xS} {S : zS} {c t : Nat} {v : Int32} {Q : Int32 → xS → Prop} (hc : c < 2 ^ 31) (hR : zRM m τ S 0 c) (hI : zI S) (ht : t < z_N S 0) (k : ∀ τ2, zRM m τ2 (z_free S t v) 0 c → Q (z_F S 8 t) τ2) : wp_X7_answersAll τ m (nI t) v Q := by
  have b := hI.1.1
  have hv : vp_in (nI t) 40 := vpI (by omega)
  have hv8 : (nI t).toNatClampNeg = t := cl40 (by omega)
  have key : ∀ (l : List Nat) (n : Nat) (τ1 : xS) (S1 : zS), l.length < n → zRM m τ1 S1 0 c → zI S1 → z_H S1 t = l → z_N S1 = z_N S → z_frees S1 l t v = z_free S t v → wb_X7_answersAll_22 Q m n τ1 (nI t) v (z_F S 8 t) (zHd l) := by
    intro l
    induction l with
    | nil =>
      intro n τ1 S1 hn hR1 hI1 hH hN hg
      cases n with
      | zero => exact absurd hn (Nat.not_lt_zero _)
      | succ n =>
        have e : S1 = z_free S t v := hg
        unfold wb_X7_answersAll_22
        refine ⟨fun _ => k τ1 (by rw [← e]; exact hR1), fun z => absurd (by decide) z⟩
    | cons a l ih =>
      intro n τ1 S1 hn hR1 hI1 hH hN hg
      cases n with
      | zero => exact absurd hn (Nat.not_lt_zero _)
      | succ n =>
        have hain : a ∈ z_H S1 t := by rw [hH]; exact List.mem_cons_self
        obtain ⟨f1, f2b, f3⟩ := free_of_H hI1 hain
        have ht1 : t < z_N S1 0 := by rw [hN]; exact ht
        obtain ⟨hs1, hs2⟩ := (hI1.1.2.1 t ht1).1
        have hF := zFr_settle (p := a) (S := S1) (h := z_hs S1 t) (st := 1) (v := v)
        have hI2 := I_settle (h := z_hs S1 t) hI1 f1 f3 f2b (zv1 (v := v)) hs2
        have ha1 : a < z_N S1 1 := f1.1
        have hH1 : z_H (z_settle S1 a (z_hs S1 t) 1 v) t = l := by
          rw [HQ_settle.1]
          show (z_H S1 t).filter _ = l
          rw [hH]
          exact drop_head (by rw [← hH]; exact hI1.2.2.2.2.2.1.1 t)
        have hN1 : z_N (z_settle S1 a (z_hs S1 t) 1 v) = z_N S := hF.1.trans hN
        unfold wb_X7_answersAll_22
        refine ⟨fun z => absurd z (nI_pos (by rw [hN] at ha1; omega)), fun _ => ⟨hv, ?_⟩⟩
        rw [hv8, rdF hR1 (k := 1), hs1]
        refine m_settle hR1 hI1 (Nat.zero_le _) f1 f2b hs2 (fun τ2 hR2 => ?_)
        refine m_firstH hR2 (by rw [hN1]; omega) hc (by omega) ?_
        rw [hH1]
        exact ih n τ2 _ (by simpa using hn) hR2 hI2 hH1 hN1 hg
  unfold wp_X7_answersAll
  rw [hv8, rdF hR (k := 8)]
  refine ⟨hv, hv, ?_⟩
  intro τ1 e1
  have R1 := m_F2 hR e1
  refine m_firstH R1 (by show z_N S 1 ≤ 100; omega) hc (by omega) ⟨(z_H S t).length + 1, ?_⟩
  exact key (z_H S t) _ τ1 (zs_F S 8 t 0) (by omega) R1 (I_8 hI) rfl rfl free_eq.symm
-- the sum of what is held
theorem sum_perm (f : Nat → Int32) : ∀ (n : Nat) (L : List Nat), L.Nodup → (∀ p ∈ L, p < n) → (L.map f).foldl (· + ·) 0 = (List.range n).foldl (fun s p => s + (if p ∈ L then f p else 0)) 0 := by
  have fold_shift : ∀ (l : List Int32) (a : Int32), l.foldl (· + ·) a = a + l.foldl (· + ·) 0 := by
    intro l
    induction l with
    | nil => intro a; simp
    | cons x l ih => intro a; rw [List.foldl_cons, ih, List.foldl_cons, ih (0 + x), Int32.zero_add, Int32.add_assoc]
  intro n
  induction n with
  | zero =>
    intro L _ h
    cases L with
    | nil => rfl
    | cons a l => exact absurd (h a List.mem_cons_self) (Nat.not_lt_zero _)
  | succ n ih =>
    intro L hn h
    rw [List.range_succ, List.foldl_append, List.foldl_cons, List.foldl_nil]
    have rem : ∀ (L : List Nat), L.Nodup → (L.map f).foldl (· + ·) 0 = ((L.filter (fun a => !(a == n))).map f).foldl (· + ·) 0 + (if n ∈ L then f n else 0) := by
      intro L
      induction L with
      | nil => intro _; simp
      | cons a l ih2 =>
        intro hn
        have hn2 := List.nodup_cons.mp hn
        rw [List.map_cons, List.foldl_cons, fold_shift, Int32.zero_add]
        by_cases z : a = n
        · subst z
          have e : l.filter (fun b => !(b == a)) = l := List.filter_eq_self.mpr (fun b hb => by
            have : ¬ b = a := fun y => hn2.1 (by rw [← y]; exact hb)
            simp [this])
          have e2 : (a :: l).filter (fun b => !(b == a)) = l := by simp [e]
          rw [e2, if_pos List.mem_cons_self, Int32.add_comm]
        · have z2 : ¬ n = a := fun y => z y.symm
          have e2 : (a :: l).filter (fun b => !(b == n)) = a :: l.filter (fun b => !(b == n)) := by simp [z]
          rw [e2, List.map_cons, List.foldl_cons, fold_shift _ (0 + f a), Int32.zero_add, ih2 hn2.2, Int32.add_assoc]
          simp [z2]
    rw [rem L hn, ih (L.filter (fun a => !(a == n))) (hn.filter _) (fun p hp => by
      rw [List.mem_filter] at hp
      have := h p hp.1
      have h2 : ¬ p = n := by simpa using hp.2
      omega)]
    congr 1
    have : ∀ (l : List Nat) (a : Int32), (∀ p ∈ l, p < n) → l.foldl (fun s p => s + (if p ∈ L.filter (fun a => !(a == n)) then f p else 0)) a = l.foldl (fun s p => s + (if p ∈ L then f p else 0)) a := by
      intro l
      induction l with
      | nil => intro a _; rfl
      | cons x l ih3 =>
        intro a hl
        rw [List.foldl_cons, List.foldl_cons, ih3 _ (fun p hp => hl p (List.mem_cons_of_mem _ hp))]
        have hx : ¬ x = n := by have := hl x List.mem_cons_self; omega
        simp [hx]
    exact this _ 0 (fun p hp => List.mem_range.mp hp)
