/-! The calls that only look -/
def zo_about (S : zS) (t what : Int32) : Int32 := match zix (z_N S 0) t with
  | none => -1
  | some u => if what = 0 then z_F S 1 u else if what = 1 then z_F S 2 u else if what = 2 then z_F S 3 u else if what = 3 then z_F S 4 u else if what = 4 then z_F S 5 u else if what = 5 then (if z_F S 6 u = 0 then 0 else 1) else if what = 6 then (if z_F S 7 u = 0 then 0 else 1) else if what = 7 then z_F S 8 u else -1
theorem m_aboutOp {m : Nat} {τ : xS} {S : zS} {c : Nat} {t what : Int32} {Q : Int32 → Prop} (hR : zRM m τ S 0 c) (hJ : zJ S) (k : Q (zo_about S t what)) : wp_X7_about τ m t what Q := by
  have b := hJ.1.1.1
  unfold zo_about at k
  unfold wp_X7_about
  refine m_isThing hR (by omega) (fun e => ⟨fun _ => ?_, fun y => absurd rfl y⟩) (fun u hu e1 e2 => ⟨fun y => absurd y (by decide), fun _ => ?_⟩)
  · rw [e] at k; exact k
  · rw [e2] at k
    subst e1
    have hv : vp_in (nI u) 40 := vpI (by omega)
    rw [cl40 (by omega), rdF hR (k := 1), rdF hR (k := 2), rdF hR (k := 3), rdF hR (k := 4), rdF hR (k := 5), rdF hR (k := 6), rdF hR (k := 7), rdF hR (k := 8)]
    have k2 : Q (if what = 0 then z_F S 1 u else if what = 1 then z_F S 2 u else if what = 2 then z_F S 3 u else if what = 3 then z_F S 4 u else if what = 4 then z_F S 5 u else if what = 5 then (if z_F S 6 u = 0 then 0 else 1) else if what = 6 then (if z_F S 7 u = 0 then 0 else 1) else if what = 7 then z_F S 8 u else -1) := k
    refine ⟨fun e => ⟨hv, ?_⟩, fun n0 => ⟨fun e => ⟨hv, ?_⟩, fun n1 => ⟨fun e => ⟨hv, ?_⟩, fun n2 => ⟨fun e => ⟨hv, ?_⟩, fun n3 => ⟨fun e => ⟨hv, ?_⟩, fun n4 => ⟨fun e => ⟨hv, fun z => ?_, fun z => ?_⟩, fun n5 => ⟨fun e => ⟨hv, fun z => ?_, fun z => ?_⟩, fun n6 => ⟨fun e => ⟨hv, ?_⟩, fun n7 => ?_⟩⟩⟩⟩⟩⟩⟩⟩
    · rw [if_pos e] at k2; exact k2
    · rw [if_neg n0, if_pos e] at k2; exact k2
    · rw [if_neg n0, if_neg n1, if_pos e] at k2; exact k2
    · rw [if_neg n0, if_neg n1, if_neg n2, if_pos e] at k2; exact k2
    · rw [if_neg n0, if_neg n1, if_neg n2, if_neg n3, if_pos e] at k2; exact k2
    · rw [if_neg n0, if_neg n1, if_neg n2, if_neg n3, if_neg n4, if_pos e, if_pos z] at k2; exact k2
    · rw [if_neg n0, if_neg n1, if_neg n2, if_neg n3, if_neg n4, if_pos e, if_neg z] at k2; exact k2
    · rw [if_neg n0, if_neg n1, if_neg n2, if_neg n3, if_neg n4, if_neg n5, if_pos e, if_pos z] at k2; exact k2
    · rw [if_neg n0, if_neg n1, if_neg n2, if_neg n3, if_neg n4, if_neg n5, if_pos e, if_neg z] at k2; exact k2
    · rw [if_neg n0, if_neg n1, if_neg n2, if_neg n3, if_neg n4, if_neg n5, if_neg n6, if_pos e] at k2; exact k2
    · rw [if_neg n0, if_neg n1, if_neg n2, if_neg n3, if_neg n4, if_neg n5, if_neg n6, if_neg n7] at k2; exact k2
def zo_state (S : zS) (p h what : Int32) : Int32 :=
  if zix (z_N S 1) p = none ∨ zix 4 h = none ∨ (what < 0 ∨ 1 < what) then -1
  else if ¬ (z_F S 9 p.toNatClampNeg = h ∨ z_F S 10 p.toNatClampNeg = h) then -2
  else if what = 0 then z_st S p.toNatClampNeg h else z_vl S p.toNatClampNeg h
theorem m_stateOp {m : Nat} {τ : xS} {S : zS} {c : Nat} {p h what : Int32} {Q : Int32 → Prop} (hR : zRM m τ S 0 c) (hJ : zJ S) (k : Q (zo_state S p h what)) : wp_X7_state τ m p h what Q := by
  have b := hJ.1.1.1
  unfold zo_state at k
  have bad : (zix (z_N S 1) p = none ∨ zix 4 h = none ∨ (what < 0 ∨ 1 < what)) → wb_X7_state_26 Q τ m := by
    intro z; rw [if_pos z] at k; exact k
  unfold wp_X7_state
  refine m_isPromise hR (by omega) (fun e => ⟨fun _ => bad (Or.inl e), fun y => absurd rfl y⟩) (fun q hq e1 e2 => ⟨fun y => absurd y (by decide), fun _ => ?_⟩)
  refine m_house (fun e => ⟨fun _ => bad (Or.inr (Or.inl e)), fun y => absurd rfl y⟩) (fun a ha e3 e4 => ⟨fun y => absurd y (by decide), fun _ => ?_⟩)
  refine m_in (fun e => ⟨fun _ => bad (Or.inr (Or.inr e)), fun y => absurd rfl y⟩) (fun e5 => ⟨fun y => absurd y (by decide), fun _ => ?_⟩)
  rw [if_neg (fun z => z.elim (fun z => by rw [e2] at z; cases z) (fun z => z.elim (fun z => by rw [e4] at z; cases z) e5))] at k
  subst e1
  rw [cl40 (by omega)] at k
  refine m_isOf hR (by omega) (fun z => ⟨fun _ => ?_, fun y => absurd rfl y⟩) (fun hk => ⟨fun y => absurd y (by decide), fun _ => ?_⟩)
  · rw [if_pos z] at k; exact k
  · rw [if_neg (fun z => z hk)] at k
    refine ⟨fun e => ?_, fun e => ?_⟩
    · rw [if_pos e] at k; exact m_stIn hR (by omega) k
    · rw [if_neg e] at k; exact m_vlIn hR (by omega) k
theorem nd_sub {α : Type} [DecidableEq α] : ∀ (l l2 : List α), l.Nodup → (∀ a ∈ l, a ∈ l2) → l.length ≤ l2.length := by
  intro l
  induction l with
  | nil => intro l2 _ _; exact Nat.zero_le _
  | cons a l ih =>
    intro l2 hn hs
    have hn2 := List.nodup_cons.mp hn
    have ha : a ∈ l2 := hs a List.mem_cons_self
    have h1 := ih (l2.erase a) hn2.2 (fun b hb => by
      have h3 : b ≠ a := fun z => hn2.1 (by rw [← z]; exact hb)
      exact (List.mem_erase_of_ne h3).mpr (hs b (List.mem_cons_of_mem _ hb)))
    have h2 := List.length_erase_of_mem ha
    have h3 := List.length_pos_of_mem ha
    rw [List.length_cons]
    omega
theorem nd_eq {α : Type} [DecidableEq α] {l l2 : List α} (h1 : l.Nodup) (h2 : l2.Nodup) (h : ∀ a, a ∈ l ↔ a ∈ l2) : l.length = l2.length := Nat.le_antisymm (nd_sub l l2 h1 (fun a ha => (h a).mp ha)) (nd_sub l2 l h2 (fun a ha => (h a).mpr ha))
theorem rng_len {P : Nat → Bool} {n : Nat} : ((List.range (n + 1)).filter P).length = ((List.range n).filter P).length + (if P n = true then 1 else 0) := by
  rw [List.range_succ, List.filter_append, List.length_append]
  congr 1
  by_cases e : P n = true
  · simp [e]
  · simp [e]
theorem m_waitsFor {m : Nat} {τ : xS} {S : zS} {c q : Nat} {Q : Int32 → Prop} (hR : zRM m τ S 0 c) (hI : zI S) (hq : q < z_N S 1) (k : Q (nI (z_Q S q).length)) : wp_X7_waitsFor τ m (nI q) Q := by
  have b := hI.1.1
  have hN : xh_I τ 457 m = nI (z_N S 1) := hR.1.2.2.2.1
  obtain ⟨-, -, ⟨kb, sn, h1, -, -, h4, -, -, -, h8⟩, -⟩ := id hR
  let P : Nat → Bool := fun p => decide (z_F S 16 p = 2 ∧ kb p = q)
  have e0 : ((List.range (z_N S 1)).filter P).length = (z_Q S q).length := by
    refine nd_eq (List.nodup_range.filter _) (hI.2.2.2.2.2.2.2.1.1 q) (fun p => ?_)
    rw [List.mem_filter, List.mem_range, h4 q p]
    simp [P]
  have key : ∀ (n j : Nat), j ≤ z_N S 1 → z_N S 1 < j + n → wb_X7_waitsFor_4 Q τ m n (nI q) (nI ((List.range j).filter P).length) (nI j) := by
    intro n
    induction n with
    | zero => intro j h1 h2; omega
    | succ n ih =>
      intro j hj1 hj2
      unfold wb_X7_waitsFor_4
      rw [hN, nI_leI (by omega) (by omega)]
      refine ⟨fun z => ?_, fun z => ?_⟩
      · have : j = z_N S 1 := by omega
        rw [this, e0]; exact k
      · have hv : vp_in (nI j) 100 := vpI (by omega)
        have fin := ih (j + 1) (by omega) (by omega)
        rw [rng_len, ← nI_1] at fin
        have no : ¬ P j = true → wb_X7_waitsFor_37 Q (fun l1 l2 l3 => wb_X7_waitsFor_4 Q τ m n l1 l2 l3) τ m (nI q) (nI j) (nI ((List.range j).filter P).length) := by
          intro y
          rw [if_neg y] at fin
          unfold wb_X7_waitsFor_37 wb_X7_waitsFor_38
          rw [Int32.add_zero]
          exact fin
        rw [cl40 (by omega), rdF hR (k := 16), (h1 j).1, nI_eq (by have := (h8 j).1; omega) (by omega)]
        refine ⟨hv, fun y1 => ⟨hv, fun y2 => ?_, fun y2 => no (fun y => y2 (of_decide_eq_true y).2)⟩, fun y1 => no (fun y => y1 (of_decide_eq_true y).1)⟩
        rw [if_pos (show P j = true from decide_eq_true ⟨y1, y2⟩)] at fin
        unfold wb_X7_waitsFor_38
        rw [nI_1]
        exact fin
  refine ⟨z_N S 1 + 1, ?_⟩
  have := key (z_N S 1 + 1) 0 (by omega) (by omega)
  exact this
def zo_promise (S : zS) (p what : Int32) : Int32 := match zix (z_N S 1) p with
  | none => -1
  | some q => if what = 0 then z_F S 9 q else if what = 1 then z_F S 10 q else if what = 2 then nI (z_Q S q).length else if what = 3 then z_F S 15 q else if what = 4 then z_F S 16 q else -1
theorem m_promiseOp {m : Nat} {τ : xS} {S : zS} {c : Nat} {p what : Int32} {Q : Int32 → Prop} (hR : zRM m τ S 0 c) (hJ : zJ S) (k : Q (zo_promise S p what)) : wp_X7_promise τ m p what Q := by
  have b := hJ.1.1.1
  unfold zo_promise at k
  unfold wp_X7_promise
  refine m_isPromise hR (by omega) (fun e => ⟨fun _ => ?_, fun y => absurd rfl y⟩) (fun u hu e1 e2 => ⟨fun y => absurd y (by decide), fun _ => ?_⟩)
  · rw [e] at k; exact k
  · rw [e2] at k
    subst e1
    have hv : vp_in (nI u) 100 := vpI (by omega)
    rw [cl40 (by omega), rdF hR (k := 9), rdF hR (k := 10), rdF hR (k := 15), rdF hR (k := 16)]
    have k2 : Q (if what = 0 then z_F S 9 u else if what = 1 then z_F S 10 u else if what = 2 then nI (z_Q S u).length else if what = 3 then z_F S 15 u else if what = 4 then z_F S 16 u else -1) := k
    refine ⟨fun e => ⟨hv, ?_⟩, fun n0 => ⟨fun e => ⟨hv, ?_⟩, fun n1 => ⟨fun e => ?_, fun n2 => ⟨fun e => ⟨hv, ?_⟩, fun n3 => ⟨fun e => ⟨hv, ?_⟩, fun n4 => ?_⟩⟩⟩⟩⟩
    · rw [if_pos e] at k2; exact k2
    · rw [if_neg n0, if_pos e] at k2; exact k2
    · rw [if_neg n0, if_neg n1, if_pos e] at k2; exact m_waitsFor hR hJ.1 hu k2
    · rw [if_neg n0, if_neg n1, if_neg n2, if_pos e] at k2; exact k2
    · rw [if_neg n0, if_neg n1, if_neg n2, if_neg n3, if_pos e] at k2; exact k2
    · rw [if_neg n0, if_neg n1, if_neg n2, if_neg n3, if_neg n4] at k2; exact k2
-- wire
def zo_wire (S : zS) (a b : Int32) : Int32 := if zix 4 a = none ∨ zix 4 b = none then -1 else nI (z_W S (4 * a.toNatClampNeg + b.toNatClampNeg)).length
theorem take_len {α : Type} {P : α → Bool} {l : List α} {j : Nat} (h : j < l.length) : ((l.take (j + 1)).filter P).length = ((l.take j).filter P).length + (if P l[j] = true then 1 else 0) := by
  rw [List.take_succ_eq_append_getElem h, List.filter_append, List.length_append]
  congr 1
  by_cases e : P l[j] = true
  · simp [e]
  · simp [e]
theorem m_wireOp {m : Nat} {τ : xS} {S : zS} {c : Nat} {a b : Int32} {Q : Int32 → Prop} (hR : zRM m τ S 0 c) (hJ : zJ S) (k : Q (zo_wire S a b)) : wp_X7_wire τ m a b Q := by
  unfold zo_wire at k
  unfold wp_X7_wire
  refine m_houses (fun e => ⟨fun _ => ?_, fun y => absurd rfl y⟩) (fun i j hi hj e1 e2 e3 e4 => ⟨fun y => absurd y (by decide), fun _ => ?_⟩)
  · rw [if_pos e] at k; exact k
  · rw [if_neg (fun z => z.elim (fun z => by rw [e3] at z; cases z) (fun z => by rw [e4] at z; cases z))] at k
    subst e1; subst e2
    rw [cl40 (by omega), cl40 (by omega)] at k
    obtain ⟨fl, hl⟩ := hR.2.1
    have hcnt := zI_cnt hJ.1
    have hn := m_cnt hl
    let P : Nat × zL → Bool := fun e => e.1 == 4 * i + j
    have e0 : (fl.filter P).length = (z_W S (4 * i + j)).length := by rw [← hl.2.2, List.length_map]
    have key : ∀ (n u : Nat), u ≤ fl.length → fl.length < u + n → wb_X7_wire_15 Q τ m n (nI i) (nI j) (nI ((fl.take u).filter P).length) (nI u) := by
      intro n
      induction n with
      | zero => intro u h1 h2; omega
      | succ n ih =>
        intro u hu1 hu2
        unfold wb_X7_wire_15
        rw [hl.1, nI_leI (by omega) (by omega)]
        refine ⟨fun z => ?_, fun z => ?_⟩
        · have : u = fl.length := by omega
          rw [this, List.take_length, e0]; exact k
        · have hlt : u < fl.length := by omega
          have hg : fl[u]? = some ((fl[u]).1, (fl[u]).2) := by rw [List.getElem?_eq_getElem hlt]
          obtain ⟨h16, -, b2, b3, -⟩ := hl.2.1 u _ _ hg
          have hv : vp_in (nI u) 400 := vpI (by omega)
          have fin := ih (u + 1) (by omega) (by omega)
          rw [take_len hlt, ← nI_1] at fin
          have no : ¬ P fl[u] = true → wb_X7_wire_51 Q (fun l1 l2 l3 l4 => wb_X7_wire_15 Q τ m n l1 l2 l3 l4) τ m (nI i) (nI j) (nI u) (nI ((fl.take u).filter P).length) := by
            intro y
            rw [if_neg y] at fin
            unfold wb_X7_wire_51 wb_X7_wire_52
            rw [Int32.add_zero]
            exact fin
          rw [cl40 (by omega), b2, b3, nI_eq (by omega) (by omega), nI_eq (by omega) (by omega)]
          refine ⟨hv, fun y1 => ⟨hv, fun y2 => ?_, fun y2 => no (fun y => ?_)⟩, fun y1 => no (fun y => ?_)⟩
          · rw [if_pos (show P fl[u] = true from by simp [P]; omega)] at fin
            unfold wb_X7_wire_52
            rw [nI_1]
            exact fin
          · simp [P] at y; omega
          · simp [P] at y; omega
    refine ⟨fl.length + 1, ?_⟩
    have := key (fl.length + 1) 0 (by omega) (by omega)
    exact this
-- letter
def z_lf (S : zS) (l : zL) (what : Int32) : Int32 := if what = 0 then z_lk l else if what = 1 then z_lp l else if what = 2 then (if l.1 = 0 then z_F S 17 l.2.1 else if l.1 = 2 then 2 else l.2.2.2.2.1) else if what = 3 then (if l.1 = 0 then z_F S 18 l.2.1 else if l.1 = 2 then l.2.2.2.2.1 else l.2.2.2.2.2) else if what = 4 then zOI l.2.2.1 else zOI l.2.2.2.1
def zo_letter (S : zS) (a b i what : Int32) : Int32 :=
  if zix 4 a = none ∨ zix 4 b = none ∨ (what < 0 ∨ 5 < what) then -1
  else if i < 0 then -9
  else match (z_W S (4 * a.toNatClampNeg + b.toNatClampNeg))[i.toNatClampNeg]? with
    | none => -9
    | some l => z_lf S l what
theorem m_letterOf {m : Nat} {τ : xS} {S : zS} {c a b i : Nat} {Q : Int32 → Prop} (hR : zRM m τ S 0 c) (hI : zI S) (ha : a < 4) (hb : b < 4) (hi : i < 2 ^ 31) (k0 : (z_W S (4 * a + b))[i]? = none → Q (-1)) (k1 : ∀ l j, (z_W S (4 * a + b))[i]? = some l → j < 400 → zRow m τ j (4 * a + b) l → Q (nI j)) : wp_X7_letterOf τ m (nI a) (nI b) (nI i) Q := by
  obtain ⟨fl, hl⟩ := hR.2.1
  have hcnt := zI_cnt hI
  have hn := m_cnt hl
  let P : Nat × zL → Bool := fun e => e.1 == 4 * a + b
  have e0 : (fl.filter P).map Prod.snd = z_W S (4 * a + b) := hl.2.2 _
  have hneg : ¬ nI i < 0 := by rw [← nI_0, nI_ltI (by omega) (by omega)]; omega
  have key : ∀ (n u : Nat), u ≤ fl.length → fl.length < u + n → ((fl.take u).filter P).length ≤ i → wb_X7_letterOf_6 Q τ m n (nI a) (nI b) (nI i) (nI (i - ((fl.take u).filter P).length)) (nI u) := by
    intro n
    induction n with
    | zero => intro u h1 h2; omega
    | succ n ih =>
      intro u hu1 hu2 hr
      unfold wb_X7_letterOf_6
      rw [hl.1, nI_leI (by omega) (by omega)]
      refine ⟨fun z => ?_, fun z => ⟨fun y => absurd y hneg, fun _ => ?_⟩⟩
      · have : u = fl.length := by omega
        rw [this, List.take_length] at hr
        refine k0 ?_
        rw [← e0]
        rw [List.getElem?_eq_none]
        rw [List.length_map]; exact hr
      · have hlt : u < fl.length := by omega
        have hg : fl[u]? = some ((fl[u]).1, (fl[u]).2) := by rw [List.getElem?_eq_getElem hlt]
        obtain ⟨h16, hrow⟩ := hl.2.1 u _ _ hg
        obtain ⟨-, b2, b3, -⟩ := id hrow
        have hv : vp_in (nI u) 400 := vpI (by omega)
        have fin := ih (u + 1) (by omega) (by omega)
        rw [take_len hlt, ← nI_1] at fin
        have no : ¬ P fl[u] = true → wb_X7_letterOf_52 Q (fun l1 l2 l3 l4 l5 => wb_X7_letterOf_6 Q τ m n l1 l2 l3 l4 l5) τ m (nI a) (nI b) (nI i) (nI (i - ((fl.take u).filter P).length)) (nI u) := by
          intro y
          rw [if_neg y] at fin
          exact fin hr
        rw [cl40 (by omega), b2, b3, nI_eq (by omega) (by omega), nI_eq (by omega) (by omega)]
        refine ⟨hv, fun y1 => ⟨hv, fun y2 => ?_, fun y2 => no (fun y => ?_)⟩, fun y1 => no (fun y => ?_)⟩
        · have hP : P fl[u] = true := by simp [P]; omega
          have ew : (fl[u]).1 = 4 * a + b := by omega
          rw [if_pos hP] at fin
          refine ⟨fun z0 => ?_, fun z0 => ?_⟩
          · rw [← nI_0, nI_eq (by omega) (by omega)] at z0
            have hi2 : i = ((fl.take u).filter P).length := by omega
            refine k1 (fl[u]).2 u ?_ (by omega) (by rw [← ew]; exact hrow)
            rw [← e0]
            have split : fl.filter P = (fl.take u).filter P ++ (fl[u] :: (fl.drop (u + 1)).filter P) := by
              have : fl = fl.take u ++ (fl[u] :: fl.drop (u + 1)) := by simp
              conv => lhs; rw [this]
              rw [List.filter_append, List.filter_cons, if_pos hP]
            rw [split, List.map_append, List.getElem?_append_right (by rw [List.length_map]; omega), List.length_map, hi2, Nat.sub_self]
            rfl
          · have hpos : ¬ i - ((fl.take u).filter P).length = 0 := fun z => z0 (by rw [z]; rfl)
            have e1 : nI (i - ((fl.take u).filter P).length) + (-1) = nI (i - (((fl.take u).filter P).length + 1)) := by
              have h9 := nI_pred1 (n := i - ((fl.take u).filter P).length) (by omega)
              rw [show i - (((fl.take u).filter P).length + 1) = i - ((fl.take u).filter P).length - 1 from by omega, ← h9, Int32.sub_eq_add_neg]
            unfold wb_X7_letterOf_52
            rw [e1]
            exact fin (by omega)
        · simp [P] at y; omega
        · simp [P] at y; omega
  refine ⟨fl.length + 1, ?_⟩
  have := key (fl.length + 1) 0 (by omega) (by omega) (by simp)
  rw [nI_0] at this
  simpa using this
theorem m_letterOp {m : Nat} {τ : xS} {S : zS} {c : Nat} {a b i what : Int32} {Q : Int32 → Prop} (hR : zRM m τ S 0 c) (hJ : zJ S) (k : Q (zo_letter S a b i what)) : wp_X7_letter τ m a b i what Q := by
  have bb := hJ.1.1.1
  unfold zo_letter at k
  have bad : (zix 4 a = none ∨ zix 4 b = none ∨ (what < 0 ∨ 5 < what)) → wb_X7_letter_18 Q τ m := by
    intro z; rw [if_pos z] at k; exact k
  unfold wp_X7_letter
  refine m_houses (fun e => ⟨fun _ => bad (e.elim Or.inl (fun z => Or.inr (Or.inl z))), fun y => absurd rfl y⟩) (fun x y hx hy e1 e2 e3 e4 => ⟨fun y => absurd y (by decide), fun _ => ?_⟩)
  refine m_in (fun e => ⟨fun _ => bad (Or.inr (Or.inr e)), fun y => absurd rfl y⟩) (fun e5 => ⟨fun y => absurd y (by decide), fun _ => ?_⟩)
  rw [if_neg (fun z => z.elim (fun z => by rw [e3] at z; cases z) (fun z => z.elim (fun z => by rw [e4] at z; cases z) e5))] at k
  subst e1; subst e2
  rw [cl40 (by omega), cl40 (by omega)] at k
  by_cases hneg : i < 0
  · rw [if_pos hneg] at k
    refine ⟨1, ?_⟩
    unfold wb_X7_letterOf_6
    have fin : ∀ P : Prop, (0 ≤ (-1 : Int32) → P) ∧ (¬ 0 ≤ (-1 : Int32) → Q (-9)) := fun P => ⟨fun z => absurd z (by decide), fun _ => k⟩
    exact ⟨fun _ => fin _, fun _ => ⟨fun _ => fin _, fun z => absurd hneg z⟩⟩
  · rw [if_neg hneg] at k
    obtain ⟨ei, hi⟩ := i_nat hneg
    generalize i.toInt.toNat = u at ei hi
    subst ei
    rw [nI_clamp hi] at k
    refine m_letterOf hR hJ.1 hx hy hi (fun e => ⟨fun z => absurd z (by decide), fun _ => ?_⟩) (fun l j e hj hrow => ⟨fun _ => ?_, fun z => ?_⟩)
    · rw [e] at k; exact k
    · rw [e] at k
      have hv : vp_in (nI j) 400 := vpI hj
      obtain ⟨r1, -, -, r4, r5, r6, r7, r8, -⟩ := hrow
      have hl := (hJ.1.2.1 _ l (List.mem_of_getElem? e)).2
      have hp : ¬ l.1 = 2 → z_lp l = nI l.2.1 := fun z => by unfold z_lp; rw [if_neg z]
      rw [cl40 (by omega), r1, r4, r5, r6, r7, r8]
      have k2 : Q (z_lf S l what) := k
      unfold z_lf at k2
      refine ⟨hv, fun e => ⟨hv, ?_⟩, fun n0 => ⟨fun e => ?_, fun n1 => ⟨fun e => ⟨hv, ?_⟩, fun n2 => ⟨fun e => ⟨hv, ?_⟩, fun n3 => ⟨fun e => ⟨hv, ?_⟩, fun n4 => ⟨hv, ?_⟩⟩⟩⟩⟩⟩
      · rw [if_pos e] at k2; exact k2
      · rw [if_neg n0, if_pos e] at k2; exact k2
      · rw [if_neg n0, if_neg n1, if_pos e] at k2
        rcases hl with ⟨k1, k3, -⟩ | ⟨k1, k3, -⟩ | ⟨k1, k3, -⟩ | ⟨k1, -⟩
        · have e0 : z_lk l = 0 := by unfold z_lk; rw [k1]; rfl
          rw [if_pos k1] at k2
          rw [e0, hp (by omega), cl40 (by omega), rdF hR (k := 17)]
          exact ⟨fun _ => ⟨vpI (by omega), k2⟩, fun z => absurd rfl z⟩
        · have e0 : z_lk l = 1 := by unfold z_lk; rw [k1]; rfl
          rw [if_neg (by omega), if_neg (by omega)] at k2
          rw [e0]
          exact ⟨fun z => absurd z (by decide), fun _ => ⟨hv, fun _ => ⟨hv, k2⟩, fun z => absurd rfl z⟩⟩
        · have e0 : z_lk l = 1 := by unfold z_lk; rw [if_pos k1]
          rw [if_neg (by omega), if_neg (by omega)] at k2
          rw [e0]
          exact ⟨fun z => absurd z (by decide), fun _ => ⟨hv, fun _ => ⟨hv, k2⟩, fun z => absurd rfl z⟩⟩
        · have e0 : z_lk l = 2 := by unfold z_lk; rw [k1]; rfl
          rw [if_neg (by omega), if_pos k1] at k2
          rw [e0]
          exact ⟨fun z => absurd z (by decide), fun _ => ⟨hv, fun z => absurd z (by decide), fun _ => k2⟩⟩
      · rw [if_neg n0, if_neg n1, if_neg n2, if_pos e] at k2
        rcases hl with ⟨k1, k3, -⟩ | ⟨k1, k3, -⟩ | ⟨k1, k3, -⟩ | ⟨k1, -⟩
        · have e0 : z_lk l = 0 := by unfold z_lk; rw [k1]; rfl
          rw [if_pos k1] at k2
          rw [e0, hp (by omega), cl40 (by omega), rdF hR (k := 18)]
          exact ⟨fun _ => ⟨vpI (by omega), k2⟩, fun z => absurd rfl z⟩
        · have e0 : z_lk l = 1 := by unfold z_lk; rw [k1]; rfl
          rw [if_neg (by omega), if_neg (by omega)] at k2
          rw [e0]
          exact ⟨fun z => absurd z (by decide), fun _ => ⟨hv, fun _ => ⟨hv, k2⟩, fun z => absurd rfl z⟩⟩
        · have e0 : z_lk l = 1 := by unfold z_lk; rw [if_pos k1]
          rw [if_neg (by omega), if_neg (by omega)] at k2
          rw [e0]
          exact ⟨fun z => absurd z (by decide), fun _ => ⟨hv, fun _ => ⟨hv, k2⟩, fun z => absurd rfl z⟩⟩
        · have e0 : z_lk l = 2 := by unfold z_lk; rw [k1]; rfl
          rw [if_neg (by omega), if_pos k1] at k2
          rw [e0]
          exact ⟨fun z => absurd z (by decide), fun _ => ⟨hv, fun z => absurd z (by decide), fun _ => ⟨hv, k2⟩⟩⟩
      · rw [if_neg n0, if_neg n1, if_neg n2, if_neg n3, if_pos e] at k2; exact k2
      · rw [if_neg n0, if_neg n1, if_neg n2, if_neg n3, if_neg n4] at k2; exact k2
    · exact absurd (by rw [← nI_0, nI_leI (by omega) (by omega)]; omega) z
