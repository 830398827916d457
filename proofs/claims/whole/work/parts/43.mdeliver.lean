/-! A wire delivers its first letter; a wire that is cut loses all that it has -/
def z_dlv (S : zS) (w : Nat) (l : zL) (ls : List zL) : zS := z_all 1000 (z_come (z_off S w l ls) l)
theorem I_dlv {S : zS} {w : Nat} {l : zL} {ls : List zL} (hI : zI S) (e : z_W S w = l :: ls) : zI (z_dlv S w l ls) ∧ z_D (z_dlv S w l ls) = [] ∧ zKp (z_off S w l ls) (z_dlv S w l ls) := by
  obtain ⟨a1, a2, a3, a4, a5⟩ := I_off hI e
  have h := I_come a1 a2 a3 a5
  have g := I_all 1000 _ h (by omega)
  exact ⟨g.1, g.2.1, kp_come.tr (kp_all 1000 _)⟩
theorem m_delivers {m : Nat} {τ : xS} {S : zS} {c w i : Nat} {l : zL} {ls : List zL} {Q : Int32 → xS → Prop} (hc : c + 1 < 2 ^ 31) (hR : zRM m τ S 0 c) (hI : zI S) (hA : zAt m τ S w i l ls) (k : ∀ τ2 c2, c ≤ c2 → c2 ≤ c + 1 → zRM m τ2 (z_dlv S w l ls) 0 c2 → Q (z_lk l) τ2) : wp_X7_delivers τ m (nI i) Q := by
  obtain ⟨a1, a2, a3, a4, a5⟩ := I_off hI hA.1
  have hIc := I_come a1 a2 a3 a5
  unfold wp_X7_delivers
  refine m_take hR hI hA (fun τ2 R2 O2 => ?_)
  have fin : ∀ τ3 c2, c ≤ c2 → c2 ≤ c + 1 → zRM m τ3 (z_come (z_off S w l ls) l) 0 c2 → wb_X7_delivers_54 Q τ3 m := by
    intro τ3 c2 h1 h2 R3
    unfold wb_X7_delivers_54
    have e : xh_I τ3 498 m = z_lk l := by
      rw [R3.1.1.2, (kp_come (S := z_off S w l ls) (l := l)).1]; rfl
    rw [e]
    exact m_doesAll (by omega) R3 hIc (fun τ4 R4 => k τ4 c2 h1 h2 R4)
  obtain ⟨o1, o2, o3, o4, o5, o6, o7⟩ := id O2
  have hlp : ¬ l.1 = 2 → z_lp l = nI l.2.1 := fun z => by unfold z_lp; rw [if_neg z]
  have hk : z_lk l = 1 ↔ (l.1 = 1 ∨ l.1 = 3) := by
    unfold z_lk
    rcases a5 with ⟨k1, -⟩ | ⟨k1, -⟩ | ⟨k1, -⟩ | ⟨k1, -⟩ <;> rw [k1] <;> simp <;> decide
  rw [o1, hk]
  refine ⟨fun z => ?_, fun z => ⟨fun y => ?_, fun y => ?_⟩⟩
  · rw [o2, o5, o6, o7, hlp (by omega)]
    refine m_back R2 a1 a5 a2 z _ _ (lval a5 z) (fun τ3 R3 => fin τ3 c (by omega) (by omega) ?_)
    unfold z_come
    by_cases e1 : l.1 = 1
    · rw [if_pos e1] at R3 ⊢; exact R3
    · rw [if_neg e1] at R3 ⊢; rw [if_pos (by omega)]; exact R3
  · rw [o3] at y
    have en : l.2.2.1 = none := by
      cases h : l.2.2.1 with
      | none => rfl
      | some t =>
        exfalso
        rw [h] at y
        have ht : t < 1000 := by
          have b := a1.1.1
          rcases a5 with ⟨-, -, -, -, k5, -⟩ | ⟨-, -, -, -, -, k6, -⟩ | ⟨-, -, -, -, -, -, -, k8, -⟩ | ⟨-, -, ⟨t2, k3, k4⟩, -⟩
          · rcases k5 with ⟨t2, z1, z2, z3⟩ | ⟨q, z1, z2, z3, z4⟩
            · rw [h] at z2; cases z2; omega
            · rw [h] at z2; cases z2
          · rw [h] at k6; cases k6
          · rw [h] at k8; cases k8
          · rw [h] at k4; cases k4; omega
        exact oi_neg ht y
    exact m_toPromise hc R2 a1 a5 a2 (by omega) en O2 fin
  · rw [o3] at y
    cases h : l.2.2.1 with
    | none => rw [h] at y; exact absurd (by decide) y
    | some t => exact m_toThing hc R2 a1 a5 a2 a3 h O2 fin
-- the least wire that has letters
theorem m_least {m : Nat} {τ : xS} {S : zS} {c : Nat} {Q : Int32 → xS → Prop} {K : xS → Int32 → Int32 → Prop} {l1 l2 : Int32} (hR : zRM m τ S 0 c) (hI : zI S) (h0 : ¬ xh_I τ 478 m ≤ 0) (k : ∀ w i l ls, zAt m τ S w i l ls → (∀ v, v < w → z_W S v = []) → wp_X7_delivers τ m (nI i) (fun x2 σ3 => K σ3 l1 (l2 + 1))) : ∃ f, wb_X7_flow_31 Q K m f τ l1 l2 0 1 := by
  obtain ⟨fl, hl⟩ := hR.2.1
  have hcnt := zI_cnt hI
  have hn := m_cnt hl
  have hpos : 0 < fl.length := by
    rw [hl.1, ← nI_0, nI_leI (by omega) (by omega)] at h0; omega
  have key : ∀ (f i j : Nat), i < j → j ≤ fl.length → fl.length < j + f → (∀ e i2 e2, fl[i]? = some e → i2 < j → fl[i2]? = some e2 → e.1 ≤ e2.1 ∧ (i2 < i → e.1 < e2.1)) → wb_X7_flow_31 Q K m f τ l1 l2 (nI i) (nI j) := by
    intro f
    induction f with
    | zero => intro i j _ h1 h2; omega
    | succ f ih =>
      intro i j hij hj1 hj2 hf
      have hgi : fl[i]? = some ((fl[i]).1, (fl[i]).2) := by rw [List.getElem?_eq_getElem (by omega)]
      unfold wb_X7_flow_31
      rw [hl.1, nI_leI (by omega) (by omega), cl40 (by omega), cl40 (by omega)]
      refine ⟨fun z => ?_, fun z => ?_⟩
      · have ej : j = fl.length := by omega
        subst ej
        obtain ⟨ls, hA⟩ := at_of hl hgi (fun i2 h2 e2 he => by
          have := (hf _ i2 e2 hgi (by omega) he).2 h2
          intro z2; simp at this; omega)
        refine k _ i _ ls hA (fun v hv => ?_)
        rw [← hl.2.2, List.map_eq_nil_iff, List.filter_eq_nil_iff]
        intro x hx
        obtain ⟨i2, hi2⟩ := List.getElem?_of_mem hx
        have hi3 : i2 < fl.length := (List.getElem?_eq_some_iff.mp hi2).1
        have h5 := (hf _ i2 x hgi hi3 hi2).1
        simp at h5
        have : ¬ x.1 = v := by omega
        simpa using this
      · have hlt : j < fl.length := by omega
        have hgj : fl[j]? = some ((fl[j]).1, (fl[j]).2) := by rw [List.getElem?_eq_getElem hlt]
        obtain ⟨h16, -, b2, b3, -⟩ := hl.2.1 j _ _ hgj
        obtain ⟨g16, -, c2, c3, -⟩ := hl.2.1 i _ _ hgi
        have hv : vp_in (nI j) 400 := vpI (by omega)
        have hvi : vp_in (nI i) 400 := vpI (by omega)
        rw [b2, b3, c2, c3, wix, wix, nI_leI (by omega) (by omega)]
        have m1 : 4 * ((fl[j]).1 / 4) + (fl[j]).1 % 4 = (fl[j]).1 := by omega
        have m2 : 4 * ((fl[i]).1 / 4) + (fl[i]).1 % 4 = (fl[i]).1 := by omega
        rw [m1, m2]
        refine ⟨hv, hv, hvi, hvi, fun y => ?_, fun y => ?_⟩
        · unfold wb_X7_flow_81
          rw [nI_1]
          refine ih i (j + 1) (by omega) (by omega) (by omega) (fun e i2 e2 he h2 he2 => ?_)
          by_cases z2 : i2 = j
          · subst z2
            rw [hgi] at he
            rw [hgj] at he2
            cases he; cases he2
            exact ⟨y, fun z3 => by omega⟩
          · exact hf e i2 e2 he (by omega) he2
        · unfold wb_X7_flow_81
          rw [nI_1]
          refine ih j (j + 1) (by omega) (by omega) (by omega) (fun e i2 e2 he h2 he2 => ?_)
          rw [hgj] at he
          cases he
          by_cases z2 : i2 = j
          · subst z2
            rw [hgj] at he2
            cases he2
            exact ⟨Nat.le_refl _, fun z3 => by omega⟩
          · have := (hf _ i2 e2 hgi (by omega) he2).1
            simp at this
            exact ⟨by simp; omega, fun _ => by simp; omega⟩
  refine ⟨fl.length + 1, ?_⟩
  have := key (fl.length + 1) 0 1 (by omega) (by omega) (by omega) (fun e i2 e2 he h2 he2 => by
    have : i2 = 0 := by omega
    subst this
    rw [he] at he2
    cases he2
    exact ⟨Nat.le_refl _, fun z => by omega⟩)
  rw [nI_0] at this
  exact this
def z_fw (S : zS) : Option Nat := (List.range 16).find? (fun w => !(z_W S w).isEmpty)
theorem fw_some {S : zS} {w : Nat} (hw : w < 16) (h : ¬ z_W S w = []) (hb : ∀ v, v < w → z_W S v = []) : z_fw S = some w := by
  unfold z_fw
  rw [List.find?_eq_some_iff_append]
  refine ⟨by simpa using h, List.range w, (List.range (16 - w - 1)).map (fun i => w + 1 + i), ?_, fun a ha => ?_⟩
  · have e : 16 = w + (1 + (16 - w - 1)) := by omega
    rw [e, List.range_add, List.range_add, List.map_append, List.map_map]
    have e2 : w + (1 + (16 - w - 1)) - w - 1 = 16 - w - 1 := by omega
    rw [e2]
    simp only [List.range_one, List.map_cons, List.map_nil, Nat.add_zero, List.cons_append, List.nil_append]
    congr 2
    apply List.map_congr_left
    intro i _
    simp [Function.comp]
    omega
  · rw [hb a (List.mem_range.mp ha)]; rfl
def z_flow : Nat → zS → Nat × zS
  | 0, S => (0, S)
  | n + 1, S => match z_fw S with
    | none => (0, S)
    | some w => match z_W S w with
      | [] => (0, S)
      | l :: ls => ((z_flow n (z_dlv S w l ls)).1 + 1, (z_flow n (z_dlv S w l ls)).2)
theorem flow_step {S : zS} {w n : Nat} {l : zL} {ls : List zL} (h1 : z_fw S = some w) (h2 : z_W S w = l :: ls) : z_flow (n + 1) S = ((z_flow n (z_dlv S w l ls)).1 + 1, (z_flow n (z_dlv S w l ls)).2) := by
  show (match z_fw S with
    | none => (0, S)
    | some w => match z_W S w with
      | [] => (0, S)
      | l :: ls => ((z_flow n (z_dlv S w l ls)).1 + 1, (z_flow n (z_dlv S w l ls)).2)) = _
  rw [h1]
  show (match z_W S w with
      | [] => (0, S)
      | l :: ls => ((z_flow n (z_dlv S w l ls)).1 + 1, (z_flow n (z_dlv S w l ls)).2)) = _
  rw [h2]
theorem flow_stop {S : zS} {n : Nat} (h1 : ∀ w, z_W S w = []) : z_flow n S = (0, S) := by
  cases n with
  | zero => rfl
  | succ n =>
    have : z_fw S = none := by
      unfold z_fw
      rw [List.find?_eq_none]
      intro w _
      rw [h1 w]; decide
    show (match z_fw S with
      | none => (0, S)
      | some w => match z_W S w with
        | [] => (0, S)
        | l :: ls => ((z_flow n (z_dlv S w l ls)).1 + 1, (z_flow n (z_dlv S w l ls)).2)) = _
    rw [this]
theorem flow_le : ∀ (n : Nat) (S : zS), (z_flow n S).1 ≤ n := by
  intro n
  induction n with
  | zero => intro S; exact Nat.le_refl _
  | succ n ih =>
    intro S
    unfold z_flow
    split
    · exact Nat.zero_le _
    · split
      · exact Nat.zero_le _
      · exact Nat.succ_le_succ (ih _)
theorem I_flow : ∀ (n : Nat) (S : zS), zI S → z_D S = [] → zI (z_flow n S).2 ∧ z_D (z_flow n S).2 = [] ∧ z_N (z_flow n S).2 9 = z_N S 9 ∧ z_N (z_flow n S).2 1 = z_N S 1 ∧ z_N (z_flow n S).2 2 = z_N S 2 := by
  intro n
  induction n with
  | zero => intro S hI hD; exact ⟨hI, hD, rfl, rfl, rfl⟩
  | succ n ih =>
    intro S hI hD
    unfold z_flow
    split
    · exact ⟨hI, hD, rfl, rfl, rfl⟩
    · split
      · exact ⟨hI, hD, rfl, rfl, rfl⟩
      · rename_i w _ l ls e
        obtain ⟨g1, g2, g3⟩ := I_dlv hI e
        obtain ⟨i1, i2, i3, i4, i5⟩ := ih _ g1 g2
        exact ⟨i1, i2, i3.trans g3.2.1, i4.trans g3.2.2.1, i5.trans g3.2.2.2⟩
theorem W_none {m : Nat} {τ : xS} {S : zS} {c : Nat} (hR : zRM m τ S 0 c) (hI : zI S) (h0 : xh_I τ 478 m ≤ 0) : ∀ w, z_W S w = [] := by
  obtain ⟨fl, hl⟩ := hR.2.1
  have hcnt := zI_cnt hI
  have hn := m_cnt hl
  rw [hl.1, ← nI_0, nI_leI (by omega) (by omega)] at h0
  have e : fl = [] := List.length_eq_zero_iff.mp (by omega)
  intro w
  rw [← hl.2.2, e]; rfl
theorem m_flow {m : Nat} {Q : Int32 → xS → Prop} {n : Nat} (hn : n ≤ 100) : ∀ (d j : Nat) (τ : xS) (S : zS) (c : Nat), n = j + d → c + d < 2 ^ 31 → zRM m τ S 0 c → zI S → z_D S = [] → (∀ τ2 c2, c ≤ c2 → c2 ≤ c + d → zRM m τ2 (z_flow d S).2 0 c2 → Q (nI (j + (z_flow d S).1)) τ2) → wb_X7_flow_14 Q m (d + 1) τ (nI n) (nI j) := by
  intro d
  induction d with
  | zero =>
    intro j τ S c hj hc hR hI hD k
    unfold wb_X7_flow_14
    rw [nI_leI (by omega) (by omega)]
    exact ⟨fun _ => k τ c (by omega) (by omega) hR, fun z => absurd (by omega) z⟩
  | succ d ih =>
    intro j τ S c hj hc hR hI hD k
    unfold wb_X7_flow_14
    rw [nI_leI (by omega) (by omega)]
    refine ⟨fun z => absurd z (by omega), fun _ => ⟨fun z => ?_, fun z => ?_⟩⟩
    · rw [flow_stop (W_none hR hI z)] at k
      exact k τ c (by omega) (by omega) hR
    · refine m_least hR hI z (fun w i l ls hA hb => ?_)
      obtain ⟨g1, g2, g3⟩ := I_dlv hI hA.1
      have hw : w < 16 := (I_off hI hA.1).2.2.2.1
      rw [flow_step (fw_some hw (by rw [hA.1]; simp) hb) hA.1] at k
      refine m_delivers (by omega) hR hI hA (fun τ2 c2 h1 h2 R2 => ?_)
      show wb_X7_flow_14 Q m (d + 1) τ2 (nI n) (nI j + 1)
      rw [nI_1]
      refine ih (j + 1) τ2 _ c2 (by omega) (by omega) R2 g1 g2 (fun τ3 c3 h3 h4 R3 => ?_)
      have := k τ3 c3 (by omega) (by omega) R3
      rw [show j + ((z_flow d (z_dlv S w l ls)).1 + 1) = j + 1 + (z_flow d (z_dlv S w l ls)).1 from by omega] at this
      exact this
