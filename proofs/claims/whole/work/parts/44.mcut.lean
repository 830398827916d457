/-! A cut wire takes no letters -/
def zCw (w : Nat) (S S2 : zS) : Prop := z_F S2 36 = z_F S 36 ∧ (¬ z_F S 36 w = 0 → z_W S2 w = z_W S w)
theorem zCw.rf {w : Nat} {S : zS} : zCw w S S := ⟨rfl, fun _ => rfl⟩
theorem zCw.tr {w : Nat} {S S2 S3 : zS} (h : zCw w S S2) (h2 : zCw w S2 S3) : zCw w S S3 := ⟨h2.1.trans h.1, fun z => (h2.2 (by rw [h.1]; exact z)).trans (h.2 z)⟩
theorem cw_F {w : Nat} {S : zS} {k i : Nat} {v : Int32} (hk : k ≠ 36 := by omega) : zCw w S (zs_F S k i v) := ⟨funext (fun _ => zF_ne (Ne.symm hk)), fun _ => rfl⟩
theorem cw_w {w : Nat} {S : zS} {p : Nat} {v : Int32} : zCw w S (z_w S p v) := by
  refine ⟨funext (fun j => ?_), fun _ => rfl⟩
  show xu_2 (z_F S) 16 p v 36 j = _
  unfold xu_2
  rw [if_neg (by omega)]
theorem cw_due {w : Nat} {S : zS} {p : Nat} {st v : Int32} : zCw w S (z_due S p st v) := ⟨rfl, fun _ => rfl⟩
theorem cw_post {w v : Nat} {S : zS} {l : zL} (h : z_F S 36 v = 0) : zCw w S (z_post S v l) := ⟨rfl, fun z => by rw [wW_post, if_neg (fun e => z (by rw [e]; exact h))]⟩
theorem cw_sw {w : Nat} {S : zS} {h t : Nat} {n : Int32} : zCw w S (z_sw S h t n) := by
  unfold z_sw
  split
  · rename_i e; exact cw_post e
  · exact zCw.rf
theorem cw_pws {w : Nat} {S : zS} {p h : Nat} {st v : Int32} : zCw w S (z_pws S p h st v) := by
  unfold z_pws
  refine fold_ind (P := fun S2 => zCw w S S2) _ _ zCw.rf (fun S2 i _ h2 => ?_)
  split
  · exact h2.tr ((cw_F (k := 26)).tr cw_sw)
  · exact h2
theorem cw_arr {w : Nat} {S : zS} {p : Nat} {st v : Int32} : zCw w S (z_arr S p st v) := ((cw_F (k := 13)).tr (cw_F (k := 14))).tr cw_pws
theorem cw_ansH {w : Nat} {S : zS} {h p : Nat} {st v : Int32} : zCw w S (z_ansH S h p st v) := by
  unfold z_ansH
  split
  · rename_i e
    exact (cw_F (k := 15)).tr (cw_post (S := zs_F S 15 p (z_F S 15 p + 1)) e)
  · exact (cw_F (k := 15)).tr cw_due
theorem cw_ansA {w : Nat} {S : zS} {h p : Nat} {st v : Int32} : zCw w S (z_ansA S h p st v) := by
  unfold z_ansA
  split
  · rename_i e
    exact (cw_F (k := 15)).tr (cw_post (S := zs_F S 15 p (z_F S 15 p + 1)) e)
  · exact (cw_F (k := 15)).tr cw_arr
theorem cw_settle {w : Nat} {S : zS} {p h : Nat} {st v : Int32} : zCw w S (z_settle S p h st v) := by
  unfold z_settle
  split
  · exact cw_w.tr cw_due
  · exact cw_w.tr cw_ansH
theorem cw_unmove {w : Nat} {S : zS} {p : Nat} : zCw w S (z_unmove S p) := by
  unfold z_unmove
  split
  · exact zCw.rf
  · exact (cw_F (k := 3)).tr (cw_F (k := 20))
theorem cw_lose {w : Nat} {S : zS} {p h : Nat} : zCw w S (z_lose S p h) := cw_unmove.tr cw_settle
theorem cw_send {w : Nat} {S : zS} {p h g : Nat} {th asked : Option Nat} : zCw w S (z_send S p h g th asked) := by
  unfold z_send
  split
  · rename_i e
    refine (cw_F (k := 15) (i := p) (v := z_F S 15 p + 1)).tr (cw_w.tr (cw_post ?_))
    rw [(cw_w (w := 0)).1]
    exact e
  · exact (cw_F (k := 15)).tr cw_lose
theorem cw_go {w : Nat} {S : zS} {p h : Nat} {st v : Int32} : zCw w S (z_go S p h st v) := by
  unfold z_go
  split
  · exact cw_send
  · exact cw_settle
theorem cw_gos {w h : Nat} {st v : Int32} : ∀ (l : List Nat) (S : zS), zCw w S (z_gos S l h st v) := by
  intro l
  induction l with
  | nil => intro S; exact zCw.rf
  | cons a l ih => intro S; exact cw_go.tr (ih _)
theorem cw_one {w : Nat} {S : zS} {p : Nat} {st v : Int32} : zCw w S (z_one S p st v) := by
  rw [one_eq]
  have h2 : zCw w S (z_one2 S p st v) := ((cw_F (k := 11)).tr (cw_F (k := 12))).tr (cw_gos _ _)
  have h3 : zCw w S (z_one3 S p st v) := by
    unfold z_one3
    split
    · exact h2
    · exact h2.tr cw_ansA
  exact h3.tr cw_pws
theorem cw_all {w : Nat} : ∀ (n : Nat) (S : zS), zCw w S (z_all n S) := by
  intro n
  induction n with
  | zero => intro S; exact zCw.rf
  | succ n ih =>
    intro S
    unfold z_all
    split
    · exact zCw.rf
    · rename_i d ds e
      have h0 : zCw w S (zs_D S ds) := ⟨rfl, fun _ => rfl⟩
      exact (h0.tr cw_one).tr (ih _)
theorem cw_lost {w : Nat} {S : zS} {l : zL} {h : Nat} : zCw w S (z_lost S l h) := by
  unfold z_lost
  split
  · exact cw_lose
  · split
    · exact cw_due
    · split
      · exact cw_arr
      · exact zCw.rf
theorem kp_lost {S : zS} {l : zL} {h : Nat} : zKp S (z_lost S l h) := by
  unfold z_lost
  split
  · exact zFr_lose.kp
  · split
    · exact zFr_due.kp
    · split
      · exact zFr_arr.kp
      · exact zKp.rf
theorem I_lost {S : zS} {w h : Nat} {l : zL} (hI : zI S) (hf : ¬ l.1 = 2 → zFree S l.2.1) (hl : zLok S w l) (hh : h < 4) : zI (z_lost S l h) := by
  unfold z_lost
  rcases hl with ⟨k1, k2, k3, k4, k5⟩ | ⟨k1, k2, k3, k4, k5⟩ | ⟨k1, k2, k3, k4, k5⟩ | ⟨k1, k2⟩
  · rw [if_pos k1]
    exact I_lose hI (hf (by omega)) k4 hh
  · rw [if_neg (by omega), if_pos k1]
    exact I_due hI (hf (by omega)) k3 k4 zv3
  · rw [if_neg (by omega), if_neg (by omega), if_pos k1]
    exact I_arr hI (hf (by omega)) k4 zv3
  · rw [if_neg (by omega), if_neg (by omega), if_neg (by omega)]
    exact hI
/-- the first letter of a wire is lost, and what comes of it is done -/
def z_lst (S : zS) (w : Nat) (l : zL) (ls : List zL) : zS := z_all 1000 (z_lost (z_off S w l ls) l (w / 4))
def z_lsts : Nat → zS → Nat → zS
  | 0, S, _ => S
  | n + 1, S, w => match z_W S w with
    | [] => S
    | l :: ls => z_lsts n (z_lst S w l ls) w
theorem lsts_step {S : zS} {w n : Nat} {l : zL} {ls : List zL} (h2 : z_W S w = l :: ls) : z_lsts (n + 1) S w = z_lsts n (z_lst S w l ls) w := by
  show (match z_W S w with
    | [] => S
    | l :: ls => z_lsts n (z_lst S w l ls) w) = _
  rw [h2]
theorem I_lst {S : zS} {w : Nat} {l : zL} {ls : List zL} (hI : zI S) (e : z_W S w = l :: ls) : zI (z_lst S w l ls) ∧ z_D (z_lst S w l ls) = [] ∧ z_F (z_lst S w l ls) 36 = z_F S 36 ∧ (¬ z_F S 36 w = 0 → z_W (z_lst S w l ls) w = ls) ∧ (∀ v, ¬ v = w → ¬ z_F S 36 v = 0 → z_W (z_lst S w l ls) v = z_W S v) ∧ z_N (z_lst S w l ls) 9 = z_N S 9 ∧ z_N (z_lst S w l ls) 1 = z_N S 1 ∧ z_N (z_lst S w l ls) 2 = z_N S 2 := by
  obtain ⟨a1, a2, a3, a4, a5⟩ := I_off hI e
  have hl := I_lost (h := w / 4) a1 a2 a5 (by omega)
  have g := I_all 1000 _ hl (by omega)
  have c : ∀ v, zCw v (z_off S w l ls) (z_lst S w l ls) := fun v => cw_lost.tr (cw_all 1000 _)
  have kp : zKp (z_off S w l ls) (z_lst S w l ls) := kp_lost.tr (kp_all 1000 _)
  have hF : z_F (z_off S w l ls) 36 = z_F S 36 := funext (fun _ => zF_ne (by omega))
  have hW : ∀ v, z_W (z_off S w l ls) v = if v = w then ls else z_W S v := fun v => wW_set
  refine ⟨g.1, g.2.1, (c 0).1.trans hF, fun z => ?_, fun v hv z => ?_, kp.2.1, kp.2.2.1, kp.2.2.2⟩
  · rw [(c w).2 (by rw [hF]; exact z), hW, if_pos rfl]
  · rw [(c v).2 (by rw [hF]; exact z), hW, if_neg hv]
theorem I_lsts : ∀ (n : Nat) (S : zS) (w : Nat), zI S → z_D S = [] → ¬ z_F S 36 w = 0 → (z_W S w).length = n → zI (z_lsts n S w) ∧ z_D (z_lsts n S w) = [] ∧ z_F (z_lsts n S w) 36 = z_F S 36 ∧ z_W (z_lsts n S w) w = [] ∧ (∀ v, ¬ v = w → ¬ z_F S 36 v = 0 → z_W (z_lsts n S w) v = z_W S v) ∧ z_N (z_lsts n S w) 9 = z_N S 9 ∧ z_N (z_lsts n S w) 1 = z_N S 1 ∧ z_N (z_lsts n S w) 2 = z_N S 2 := by
  intro n
  induction n with
  | zero => intro S w hI hD hc hn; exact ⟨hI, hD, rfl, List.length_eq_zero_iff.mp hn, fun _ _ _ => rfl, rfl, rfl, rfl⟩
  | succ n ih =>
    intro S w hI hD hc hn
    cases e : z_W S w with
    | nil => rw [e] at hn; simp at hn
    | cons l ls =>
      rw [lsts_step e]
      obtain ⟨g1, g2, g3, g4, g5, g6, g7, g8⟩ := I_lst hI e
      obtain ⟨i1, i2, i3, i4, i5, i6, i7, i8⟩ := ih (z_lst S w l ls) w g1 g2 (by rw [g3]; exact hc) (by rw [g4 hc]; rw [e] at hn; simpa using hn)
      exact ⟨i1, i2, i3.trans g3, i4, fun v hv z => (i5 v hv (by rw [g3]; exact z)).trans (g5 v hv z), i6.trans g6, i7.trans g7, i8.trans g8⟩
theorem m_losesAll {m a b c : Nat} {Q : Int32 → xS → Prop} (ha : a < 4) (hb : b < 4) (hc : c < 2 ^ 31) : ∀ (n j : Nat) (τ : xS) (S : zS), zRM m τ S 0 c → zI S → z_D S = [] → ¬ z_F S 36 (4 * a + b) = 0 → (z_W S (4 * a + b)).length = n → (∀ τ2, zRM m τ2 (z_lsts n S (4 * a + b)) 0 c → Q (nI (j + n)) τ2) → wp_X7_firstLetter τ m (nI a) (nI b) (fun x => wb_X7_losesAll_10 Q m (n + 1) τ (nI a) (nI b) (nI j) x) := by
  intro n
  induction n with
  | zero =>
    intro j τ S hR hI hD hcut hn k
    refine m_firstL hR hI ha hb (fun e => ?_) (fun l ls i _ hA => ?_)
    · unfold wb_X7_losesAll_10
      exact ⟨fun _ => k τ hR, fun z => absurd (Int32.le_refl _) z⟩
    · rw [hA.1] at hn; simp at hn
  | succ n ih =>
    intro j τ S hR hI hD hcut hn k
    refine m_firstL hR hI ha hb (fun e => by rw [e] at hn; simp at hn) (fun l ls i hlt hA => ?_)
    obtain ⟨a1, a2, a3, a4, a5⟩ := I_off hI hA.1
    have hq : (4 * a + b) / 4 = a := by omega
    have hIl := I_lost (h := (4 * a + b) / 4) a1 a2 a5 (by omega)
    obtain ⟨g1, g2, g3, g4, g5, g6, g7, g8⟩ := I_lst hI hA.1
    rw [lsts_step hA.1] at k
    unfold wb_X7_losesAll_10
    refine ⟨fun z => absurd z hlt, fun _ => ?_⟩
    refine m_take hR hI hA (fun τ2 R2 O2 => ?_)
    have fin : ∀ τ3, zRM m τ3 (z_lost (z_off S (4 * a + b) l ls) l ((4 * a + b) / 4)) 0 c → wb_X7_losesAll_66 Q (fun σ l1 l2 l3 l4 => wb_X7_losesAll_10 Q m (n + 1) σ l1 l2 l3 l4) τ3 m (nI a) (nI b) (nI j) := by
      intro τ3 R3
      unfold wb_X7_losesAll_66
      refine m_doesAll hc R3 hIl (fun τ4 R4 => ?_)
      rw [nI_1]
      refine ih (j + 1) τ4 (z_lst S (4 * a + b) l ls) R4 g1 g2 (by rw [g3]; exact hcut) (by rw [g4 hcut]; have := hn; rw [hA.1] at this; simpa using this) (fun τ5 R5 => ?_)
      have := k τ5 R5
      rw [show j + (n + 1) = j + 1 + n from by omega] at this
      exact this
    obtain ⟨o1, o2, o3, o4, o5, o6, o7⟩ := O2
    rw [o1, o2, o7]
    have hlp : ¬ l.1 = 2 → z_lp l = nI l.2.1 := fun z => by unfold z_lp; rw [if_neg z]
    have hl0 := a5
    rcases a5 with ⟨k1, k2, k3, k4, k5⟩ | ⟨k1, k2, k3, k4, k5⟩ | ⟨k1, k2, k3, k4, k5⟩ | ⟨k1, k2⟩
    · have e0 : z_lk l = 0 := by unfold z_lk; rw [k1]; rfl
      rw [e0, hlp (by omega)]
      refine ⟨fun _ => ?_, fun z => absurd rfl z⟩
      refine m_lose R2 a1 (Nat.zero_le _) (a2 (by omega)) ha (fun τ3 R3 => fin τ3 ?_)
      unfold z_lost
      rw [if_pos k1, hq]
      exact R3
    · have e0 : z_lk l = 1 := by unfold z_lk; rw [k1]; rfl
      rw [e0, hlp (by omega)]
      refine ⟨fun z => absurd z (by decide), fun _ => ⟨fun _ => ?_, fun z => absurd rfl z⟩⟩
      refine m_back R2 a1 hl0 a2 (Or.inl k1) 3 1 zv3 (fun τ3 R3 => fin τ3 ?_)
      rw [if_pos k1] at R3
      unfold z_lost
      rw [if_neg (by omega), if_pos k1]
      exact R3
    · have e0 : z_lk l = 1 := by unfold z_lk; rw [if_pos k1]
      rw [e0, hlp (by omega)]
      refine ⟨fun z => absurd z (by decide), fun _ => ⟨fun _ => ?_, fun z => absurd rfl z⟩⟩
      refine m_back R2 a1 hl0 a2 (Or.inr k1) 3 1 zv3 (fun τ3 R3 => fin τ3 ?_)
      rw [if_neg (by omega)] at R3
      unfold z_lost
      rw [if_neg (by omega), if_neg (by omega), if_pos k1]
      exact R3
    · have e0 : z_lk l = 2 := by unfold z_lk; rw [k1]; rfl
      rw [e0]
      refine ⟨fun z => absurd z (by decide), fun _ => ⟨fun z => absurd z (by decide), fun _ => ?_⟩⟩
      refine fin τ2 ?_
      unfold z_lost
      rw [if_neg (by omega), if_neg (by omega), if_neg (by omega)]
      exact R2
