/-! Sums and counts -/
def zsm (l : List Int64) : Int64 := l.foldl (· + ·) 0
theorem sm_shift : ∀ (l : List Int64) (a : Int64), l.foldl (· + ·) a = a + zsm l := by
  intro l
  induction l with
  | nil => intro a; show a = a + 0; rw [Int64.add_zero]
  | cons x l ih =>
    intro a
    show l.foldl (· + ·) (a + x) = a + (x :: l).foldl (· + ·) 0
    rw [ih, List.foldl_cons, ih, Int64.zero_add, Int64.add_assoc]
theorem sm_cons {x : Int64} {l : List Int64} : zsm (x :: l) = x + zsm l := by
  unfold zsm
  rw [List.foldl_cons, sm_shift, Int64.zero_add]
  rfl
theorem sm_append : ∀ (l l2 : List Int64), zsm (l ++ l2) = zsm l + zsm l2 := by
  intro l l2
  unfold zsm
  rw [List.foldl_append, sm_shift]
  rfl
theorem sm_snoc {l : List Int64} {x : Int64} : zsm (l ++ [x]) = zsm l + x := by
  rw [sm_append, sm_cons]
  show zsm l + (x + 0) = _
  rw [Int64.add_zero]
theorem sm_split {α : Type} (g : α → Int64) (P : α → Bool) : ∀ (l : List α), zsm (l.map g) = zsm ((l.filter (fun e => !P e)).map g) + zsm ((l.filter P).map g) := by
  intro l
  induction l with
  | nil => show (0 : Int64) = 0 + 0; rw [Int64.add_zero]
  | cons a l ih =>
    rw [List.map_cons, sm_cons, ih]
    cases z : P a
    · simp only [List.filter_cons, z, Bool.not_false, if_true, List.map_cons, Bool.false_eq_true, if_false]
      rw [sm_cons, Int64.add_assoc]
    · simp only [List.filter_cons, z, Bool.not_true, if_true, List.map_cons, Bool.false_eq_true, if_false]
      rw [sm_cons, ← Int64.add_assoc, ← Int64.add_assoc, Int64.add_comm (g a)]
theorem sm_wires {α : Type} (g : Nat × α → Int64) : ∀ (n : Nat) (fl : List (Nat × α)), (∀ e ∈ fl, e.1 < n) → zsm (fl.map g) = zsm ((List.range n).map (fun w => zsm ((fl.filter (fun e => e.1 == w)).map g))) := by
  intro n
  induction n with
  | zero =>
    intro fl h
    cases fl with
    | nil => rfl
    | cons a l => exact absurd (h a List.mem_cons_self) (Nat.not_lt_zero _)
  | succ n ih =>
    intro fl h
    rw [List.range_succ, List.map_append, sm_append]
    have h1 := ih (fl.filter (fun e => !(e.1 == n))) (fun e he => by
      rw [List.mem_filter] at he
      have := h e he.1
      have h2 : ¬ e.1 = n := by simpa using he.2
      omega)
    have h3 : ∀ w, w < n → (fl.filter (fun e => !(e.1 == n))).filter (fun e => e.1 == w) = fl.filter (fun e => e.1 == w) := by
      intro w hw
      rw [List.filter_filter]
      refine List.filter_congr (fun e _ => ?_)
      by_cases z : e.1 = w
      · have : ¬ e.1 = n := by omega
        simp [z]; omega
      · simp [z]
    have h4 : ((List.range n).map (fun w => zsm (((fl.filter (fun e => !(e.1 == n))).filter (fun e => e.1 == w)).map g))) = ((List.range n).map (fun w => zsm ((fl.filter (fun e => e.1 == w)).map g))) := by
      refine List.map_congr_left (fun w hw => ?_)
      rw [h3 w (List.mem_range.mp hw)]
    rw [h4] at h1
    rw [← h1, sm_split g (fun e => e.1 == n) fl]
    congr 1
    show _ = zsm [_]
    rw [sm_cons]
    show _ = _ + (0 : Int64)
    rw [Int64.add_zero]
def z_lv (S : zS) (l : zL) : Int64 := if l.1 = 0 ∧ ¬ z_F S 20 l.2.1 < 0 then (z_F S 18 l.2.1).toInt64 else 0
def z_tv (S : zS) (t : Nat) : Int64 := if z_F S 2 t = 1 then (z_F S 3 t).toInt64 else 0
def zo_purses (S : zS) : Int64 := zsm ((List.range (z_N S 0)).map (z_tv S)) + zsm ((List.range 16).map (fun w => zsm ((z_W S w).map (z_lv S))))
theorem rng_snoc {α : Type} {f : Nat → α} {n : Nat} : (List.range (n + 1)).map f = (List.range n).map f ++ [f n] := by
  rw [List.range_succ, List.map_append]; rfl
theorem m_pursesOp {m : Nat} {τ : xS} {S : zS} {c : Nat} {Q : Int64 → Prop} (hR : zRM m τ S 0 c) (hJ : zJ S) (k : Q (zo_purses S)) : wp_X7_purses τ m Q := by
  have b := hJ.1.1.1
  obtain ⟨fl, hl⟩ := hR.2.1
  have hcnt := zI_cnt hJ.1
  have hn := m_cnt hl
  have hN : xh_I τ 448 m = nI (z_N S 0) := hR.1.2.2.1
  have e0 : zsm (fl.map (fun e => z_lv S e.2)) = zsm ((List.range 16).map (fun w => zsm ((z_W S w).map (z_lv S)))) := by
    rw [sm_wires (fun e => z_lv S e.2) 16 fl (fun e he => by
      obtain ⟨j, hj⟩ := List.getElem?_of_mem he
      exact (hl.2.1 j e.1 e.2 hj).1)]
    congr 1
    refine List.map_congr_left (fun w _ => ?_)
    rw [← hl.2.2 w, List.map_map]
    rfl
  have key2 : ∀ (s : Int64) (n u : Nat), u ≤ fl.length → fl.length < u + n → Q (s + zsm (fl.map (fun e => z_lv S e.2))) → wb_X7_purses_44 Q τ m n (s + zsm ((fl.take u).map (fun e => z_lv S e.2))) (nI u) := by
    intro s n
    induction n with
    | zero => intro u h1 h2; omega
    | succ n ih =>
      intro u hu1 hu2 k
      unfold wb_X7_purses_44
      rw [hl.1, nI_leI (by omega) (by omega)]
      refine ⟨fun z => ?_, fun z => ?_⟩
      · have : u = fl.length := by omega
        rw [this, List.take_length]; exact k
      · have hlt : u < fl.length := by omega
        have hg : fl[u]? = some ((fl[u]).1, (fl[u]).2) := by rw [List.getElem?_eq_getElem hlt]
        obtain ⟨h16, r1, r2, r3, r4, -⟩ := hl.2.1 u _ _ hg
        have hmem : (fl[u]).2 ∈ z_W S (fl[u]).1 := by
          rw [← hl.2.2]
          exact List.mem_map.mpr ⟨fl[u], List.mem_filter.mpr ⟨List.getElem_mem hlt, by simp⟩, rfl⟩
        have hok := (hJ.1.2.1 _ _ hmem).2
        have hv : vp_in (nI u) 400 := vpI (by omega)
        have fin := ih (u + 1) (by omega) (by omega) k
        rw [List.take_succ_eq_append_getElem hlt, List.map_append, List.map_cons, List.map_nil, sm_snoc, ← Int64.add_assoc, ← nI_1] at fin
        have no : z_lv S (fl[u]).2 = 0 → wb_X7_purses_91 Q (fun l1 l3 => wb_X7_purses_44 Q τ m n l1 l3) τ m (nI u) (s + zsm ((fl.take u).map (fun e => z_lv S e.2))) := by
          intro y
          unfold wb_X7_purses_91 wb_X7_purses_92
          rw [y] at fin
          exact fin
        rw [cl40 (by omega), r1, r4]
        by_cases h0 : (fl[u]).2.1 = 0
        · have e1 : z_lk (fl[u]).2 = 0 := by unfold z_lk; rw [h0]; rfl
          have e2 : z_lp (fl[u]).2 = nI (fl[u]).2.2.1 := by unfold z_lp; rw [if_neg (by omega)]
          have hp : (fl[u]).2.2.1 < z_N S 1 := zLok_lt hok (by omega)
          rw [e1, e2, cl40 (by omega), rdF hR (k := 20), rdF hR (k := 18)]
          refine ⟨hv, fun _ => ⟨hv, vpI (by omega), fun y => no ?_, fun y => ⟨hv, vpI (by omega), ?_⟩⟩, fun z => absurd rfl z⟩
          · unfold z_lv; rw [if_neg (fun z => z.2 y)]
          · unfold wb_X7_purses_92
            unfold z_lv at fin
            rw [if_pos ⟨h0, y⟩] at fin
            exact fin
        · have e1 : ¬ z_lk (fl[u]).2 = 0 := by
            unfold z_lk
            rcases hok with ⟨k1, -⟩ | ⟨k1, -⟩ | ⟨k1, -⟩ | ⟨k1, -⟩
            · exact absurd k1 h0
            · rw [k1]; decide
            · rw [k1]; decide
            · rw [k1]; decide
          refine ⟨hv, fun z => absurd z e1, fun _ => no ?_⟩
          unfold z_lv; rw [if_neg (fun z => h0 z.1)]
  have key1 : ∀ (n u : Nat), u ≤ z_N S 0 → z_N S 0 < u + n → wb_X7_purses_4 Q τ m n (zsm ((List.range u).map (z_tv S))) (nI u) := by
    intro n
    induction n with
    | zero => intro u h1 h2; omega
    | succ n ih =>
      intro u hu1 hu2
      unfold wb_X7_purses_4
      rw [hN, nI_leI (by omega) (by omega)]
      refine ⟨fun z => ?_, fun z => ?_⟩
      · have : u = z_N S 0 := by omega
        rw [this]
        refine ⟨fl.length + 1, ?_⟩
        have h5 := key2 (zsm ((List.range (z_N S 0)).map (z_tv S))) (fl.length + 1) 0 (by omega) (by omega) (by rw [e0]; exact k)
        rw [show zsm ((fl.take 0).map (fun e => z_lv S e.2)) = 0 from rfl, Int64.add_zero, nI_0] at h5
        exact h5
      · have hv : vp_in (nI u) 40 := vpI (by omega)
        have fin := ih (u + 1) (by omega) (by omega)
        rw [rng_snoc, sm_snoc, ← nI_1] at fin
        unfold z_tv at fin
        rw [cl40 (by omega), rdF hR (k := 2), rdF hR (k := 3)]
        refine ⟨hv, fun y => ⟨hv, ?_⟩, fun y => ?_⟩
        · rw [if_pos y] at fin; exact fin
        · rw [if_neg y] at fin; exact fin
  refine ⟨z_N S 0 + 1, ?_⟩
  have := key1 (z_N S 0 + 1) 0 (by omega) (by omega)
  exact this
def zo_count (S : zS) (what : Int32) : Int32 :=
  if what = 0 then nI (z_N S 0) else if what = 1 then nI (z_N S 1) else if what = 2 then nI ((List.range (z_N S 1)).filter (fun p => z_F S 11 p == 0)).length
  else if what = 3 then nI (z_cnt S) else if what = 4 then nI (z_N S 2) else if what = 5 then nI ((List.range 16).filter (fun w => !(z_F S 36 w == 0) && decide (w / 4 < w % 4))).length
  else if what = 6 then nI ((List.range (z_N S 0)).map (fun t => (z_H S t).length)).sum else if what = 7 then nI ((List.range (z_N S 1)).map (fun t => (z_Q S t).length)).sum
  else if what = 8 then z_u S else -1
theorem m_countWhere {m : Nat} {τ : xS} {S : zS} {c : Nat} {v : Int32} {Q : Int32 → Prop} (hR : zRM m τ S 0 c) (hI : zI S) (k : Q (nI ((List.range (z_N S 1)).filter (fun p => z_F S 16 p == v)).length)) : wp_X7_countWhere τ m v Q := by
  have b := hI.1.1
  have hN : xh_I τ 457 m = nI (z_N S 1) := hR.1.2.2.2.1
  let P : Nat → Bool := fun p => z_F S 16 p == v
  have key : ∀ (n j : Nat), j ≤ z_N S 1 → z_N S 1 < j + n → wb_X7_countWhere_4 Q τ m n v (nI ((List.range j).filter P).length) (nI j) := by
    intro n
    induction n with
    | zero => intro j h1 h2; omega
    | succ n ih =>
      intro j hj1 hj2
      unfold wb_X7_countWhere_4
      rw [hN, nI_leI (by omega) (by omega)]
      refine ⟨fun z => ?_, fun z => ?_⟩
      · have : j = z_N S 1 := by omega
        rw [this]; exact k
      · have hv : vp_in (nI j) 100 := vpI (by omega)
        have fin := ih (j + 1) (by omega) (by omega)
        rw [rng_len, ← nI_1] at fin
        rw [cl40 (by omega), rdF hR (k := 16)]
        unfold wb_X7_countWhere_28
        refine ⟨hv, fun y => ?_, fun y => ?_⟩
        · rw [if_pos (show P j = true from by simp [P, y])] at fin
          rw [nI_1]; exact fin
        · rw [if_neg (show ¬ P j = true from by simp [P, y])] at fin
          rw [Int32.add_zero]; exact fin
  refine ⟨z_N S 1 + 1, ?_⟩
  have := key (z_N S 1 + 1) 0 (by omega) (by omega)
  exact this
theorem kept_sum {m : Nat} {τ : xS} {S : zS} {c : Nat} (hR : zRM m τ S 0 c) (hI : zI S) : ((List.range (z_N S 1)).filter (fun p => z_F S 16 p == 1)).length = ((List.range (z_N S 0)).map (fun t => (z_H S t).length)).sum ∧ ((List.range (z_N S 1)).filter (fun p => z_F S 16 p == 2)).length = ((List.range (z_N S 1)).map (fun t => (z_Q S t).length)).sum := by
  obtain ⟨-, -, ⟨kb, sn, h1, -, h3, h4, -, -, -, h8⟩, -⟩ := id hR
  constructor
  · rw [← fm_len]
    refine nd_eq (List.nodup_range.filter _) (nd_flat _ _ hI.2.2.2.2.2.1.1 hI.2.2.2.2.2.1.2) (fun p => ?_)
    rw [List.mem_filter, List.mem_range, List.mem_flatMap]
    constructor
    · rintro ⟨a, b⟩
      have hm : p ∈ z_H S (kb p) := (h3 _ p).mpr ⟨a, by simpa using b, rfl⟩
      exact ⟨kb p, List.mem_range.mpr (hI.2.2.2.2.1 _ p hm).1, hm⟩
    · rintro ⟨t, -, hm⟩
      obtain ⟨a, b, -⟩ := (h3 t p).mp hm
      exact ⟨a, by simpa using b⟩
  · rw [← fm_len]
    refine nd_eq (List.nodup_range.filter _) (nd_flat _ _ hI.2.2.2.2.2.2.2.1.1 hI.2.2.2.2.2.2.2.1.2) (fun p => ?_)
    rw [List.mem_filter, List.mem_range, List.mem_flatMap]
    constructor
    · rintro ⟨a, b⟩
      have hm : p ∈ z_Q S (kb p) := (h4 _ p).mpr ⟨a, by simpa using b, rfl⟩
      exact ⟨kb p, List.mem_range.mpr (hI.2.2.2.2.2.2.1 _ p hm).1, hm⟩
    · rintro ⟨t, -, hm⟩
      obtain ⟨a, b, -⟩ := (h4 t p).mp hm
      exact ⟨a, by simpa using b⟩
theorem div4 {w : Nat} (h : w < 16) : nI w / 4 = nI (w / 4) ∧ nI w - nI w / 4 * 4 = nI (w % 4) := by
  have : w = 0 ∨ w = 1 ∨ w = 2 ∨ w = 3 ∨ w = 4 ∨ w = 5 ∨ w = 6 ∨ w = 7 ∨ w = 8 ∨ w = 9 ∨ w = 10 ∨ w = 11 ∨ w = 12 ∨ w = 13 ∨ w = 14 ∨ w = 15 := by omega
  rcases this with z | z | z | z | z | z | z | z | z | z | z | z | z | z | z | z <;> subst z <;> decide
theorem m_countOp {m : Nat} {τ : xS} {S : zS} {c : Nat} {what : Int32} {Q : Int32 → Prop} (hR : zRM m τ S 0 c) (hJ : zJ S) (k : Q (zo_count S what)) : wp_X7_count τ m what Q := by
  have b := hJ.1.1.1
  have hN : xh_I τ 457 m = nI (z_N S 1) := hR.1.2.2.2.1
  obtain ⟨fl, hl⟩ := hR.2.1
  have hn := m_cnt hl
  have ks := kept_sum hR hJ.1
  unfold zo_count at k
  unfold wp_X7_count
  refine ⟨fun e => ?_, fun n0 => ⟨fun e => ?_, fun n1 => ⟨fun e => ?_, fun n2 => ⟨fun e => ?_, fun n3 => ⟨fun e => ?_, fun n4 => ⟨fun e => ?_, fun n5 => ⟨fun e => ?_, fun n6 => ⟨fun e => ?_, fun n7 => ⟨fun e => ?_, fun n8 => ?_⟩⟩⟩⟩⟩⟩⟩⟩⟩
  · rw [if_pos e] at k; rw [show xh_I τ 448 m = nI (z_N S 0) from hR.1.2.2.1]; exact k
  · rw [if_neg n0, if_pos e] at k; rw [hN]; exact k
  · rw [if_neg n0, if_neg n1, if_pos e] at k
    let P : Nat → Bool := fun p => z_F S 11 p == 0
    have key : ∀ (n j : Nat), j ≤ z_N S 1 → z_N S 1 < j + n → wb_X7_count_64 Q τ m n (nI ((List.range j).filter P).length) (nI j) := by
      intro n
      induction n with
      | zero => intro j h1 h2; omega
      | succ n ih =>
        intro j hj1 hj2
        unfold wb_X7_count_64
        rw [hN, nI_leI (by omega) (by omega)]
        refine ⟨fun z => ?_, fun z => ?_⟩
        · have : j = z_N S 1 := by omega
          rw [this]; exact k
        · have hv : vp_in (nI j) 100 := vpI (by omega)
          have fin := ih (j + 1) (by omega) (by omega)
          rw [rng_len, ← nI_1] at fin
          rw [cl40 (by omega), rdF hR (k := 11)]
          unfold wb_X7_count_87
          refine ⟨hv, fun y => ?_, fun y => ?_⟩
          · rw [if_pos (show P j = true from by simp [P, y])] at fin
            rw [nI_1]; exact fin
          · rw [if_neg (show ¬ P j = true from by simp [P, y])] at fin
            rw [Int32.add_zero]; exact fin
    refine ⟨z_N S 1 + 1, ?_⟩
    have := key (z_N S 1 + 1) 0 (by omega) (by omega)
    exact this
  · rw [if_neg n0, if_neg n1, if_neg n2, if_pos e] at k; rw [hl.1, hn]; exact k
  · rw [if_neg n0, if_neg n1, if_neg n2, if_neg n3, if_pos e] at k; rw [show xh_I τ 473 m = nI (z_N S 2) from hR.1.2.2.2.2.1]; exact k
  · rw [if_neg n0, if_neg n1, if_neg n2, if_neg n3, if_neg n4, if_pos e] at k
    let P : Nat → Bool := fun w => !(z_F S 36 w == 0) && decide (w / 4 < w % 4)
    have key : ∀ (n j : Nat), j ≤ 16 → 16 < j + n → wb_X7_count_109 Q τ m n (nI ((List.range j).filter P).length) (nI j) := by
      intro n
      induction n with
      | zero => intro j h1 h2; omega
      | succ n ih =>
        intro j hj1 hj2
        unfold wb_X7_count_109
        rw [show (16 : Int32) = nI 16 from rfl, nI_leI (by omega) (by omega)]
        refine ⟨fun z => ?_, fun z => ?_⟩
        · have : j = 16 := by omega
          rw [this]; exact k
        · have hv : vp_in (nI j) 16 := vpI (by omega)
          have fin := ih (j + 1) (by omega) (by omega)
          rw [rng_len, ← nI_1] at fin
          obtain ⟨d1, d2⟩ := div4 (w := j) (by omega)
          rw [cl40 (by omega), rdF hR (k := 36), d2, d1, nI_leI (by omega) (by omega)]
          unfold wb_X7_count_138 wb_X7_count_139
          refine ⟨hv, fun y => ?_, fun y => ⟨fun x => ?_, fun x => ?_⟩⟩
          · rw [if_neg (show ¬ P j = true from by simp [P, y])] at fin
            rw [Int32.add_zero]; exact fin
          · rw [if_neg (show ¬ P j = true from by simp [P]; omega)] at fin
            rw [Int32.add_zero]; exact fin
          · rw [if_pos (show P j = true from by simp [P, y]; omega)] at fin
            rw [nI_1]; exact fin
    refine ⟨17, ?_⟩
    have := key 17 0 (by omega) (by omega)
    exact this
  · rw [if_neg n0, if_neg n1, if_neg n2, if_neg n3, if_neg n4, if_neg n5, if_pos e] at k
    exact m_countWhere hR hJ.1 (by rw [ks.1]; exact k)
  · rw [if_neg n0, if_neg n1, if_neg n2, if_neg n3, if_neg n4, if_neg n5, if_neg n6, if_pos e] at k
    exact m_countWhere hR hJ.1 (by rw [ks.2]; exact k)
  · rw [if_neg n0, if_neg n1, if_neg n2, if_neg n3, if_neg n4, if_neg n5, if_neg n6, if_neg n7, if_pos e] at k
    rw [show xh_I τ 493 m = z_u S from hR.1.2.2.2.2.2.1]; exact k
  · rw [if_neg n0, if_neg n1, if_neg n2, if_neg n3, if_neg n4, if_neg n5, if_neg n6, if_neg n7, if_neg n8] at k
    exact k
theorem m_traceOp {m : Nat} {τ : xS} {S : zS} {c : Nat} {Q : Int64 → Prop} (hR : zRM m τ S 0 c) (k : Q (z_r S)) : wp_X7_trace τ m Q := by
  unfold wp_X7_trace
  rw [show xh_L τ 494 m = z_r S from hR.1.2.2.2.2.2.2]
  exact k
