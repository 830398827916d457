/-! WHAT HOLDS OF EVERY STATE. zV: the standing things; zI: the moving ones -/
def zV (S : zS) : Prop :=
  (z_N S 0 ≤ 40 ∧ z_N S 1 ≤ 100 ∧ z_N S 2 ≤ 40) ∧
  (∀ t, t < z_N S 0 → (z_F S 1 t = nI (z_hs S t) ∧ z_hs S t < 4) ∧ (∃ k, k ≤ 6 ∧ z_F S 2 t = nI k) ∧ ((z_F S 2 t = 3 ∨ z_F S 2 t = 4) → ∃ g, g < z_N S 0 ∧ z_F S 4 t = nI g) ∧ (¬ (z_F S 2 t = 3 ∨ z_F S 2 t = 4) → z_F S 4 t = -9)) ∧
  (∀ p, p < z_N S 1 → (z_F S 9 p = nI (z_ak S p) ∧ z_ak S p < 4) ∧ (z_F S 10 p = nI (z_hm S p) ∧ z_hm S p < 4) ∧ (∃ a, a ≤ 7 ∧ z_F S 17 p = nI a) ∧ (z_F S 17 p = 4 → ∃ o, o < z_N S 0 ∧ z_F S 19 p = nI o)) ∧
  (∀ w, w < z_N S 2 → ∃ p h t, p < z_N S 1 ∧ z_F S 23 w = nI p ∧ h < 4 ∧ z_F S 24 w = nI h ∧ (h = z_ak S p ∨ h = z_hm S p) ∧ t < z_N S 0 ∧ z_F S 25 w = nI t ∧ z_hs S t = h) ∧
  (∀ h, h < 4 → z_F S 36 (4 * h + h) = 0) ∧ (∀ a b, a < 4 → b < 4 → z_F S 36 (4 * a + b) = z_F S 36 (4 * b + a)) ∧ (∀ w, z_F S 36 w = 0 ∨ z_F S 36 w = 1)
def zval (S : zS) (st v : Int32) : Prop := st = 1 ∨ (st = 2 ∧ ∃ t, t < z_N S 0 ∧ v = nI t) ∨ st = 3
def zLok (S : zS) (w : Nat) (l : zL) : Prop :=
  (l.1 = 0 ∧ l.2.1 < z_N S 1 ∧ z_F S 16 l.2.1 = 3 ∧ z_F S 11 l.2.1 = 0 ∧ ((∃ t, t < z_N S 0 ∧ l.2.2.1 = some t ∧ l.2.2.2.1 = none) ∨ (∃ q, q < z_N S 1 ∧ l.2.2.1 = none ∧ l.2.2.2.1 = some q ∧ z_F S 20 l.2.1 < 0)) ∧ l.2.2.2.2 = (0, 0)) ∨
  (l.1 = 1 ∧ l.2.1 < z_N S 1 ∧ z_F S 16 l.2.1 = 0 ∧ z_F S 11 l.2.1 = 0 ∧ w % 4 = z_hm S l.2.1 ∧ l.2.2.1 = none ∧ l.2.2.2.1 = none ∧ zval S l.2.2.2.2.1 l.2.2.2.2.2) ∨
  (l.1 = 3 ∧ l.2.1 < z_N S 1 ∧ z_F S 16 l.2.1 = 0 ∧ ¬ z_F S 11 l.2.1 = 0 ∧ z_F S 13 l.2.1 = 0 ∧ w % 4 = z_ak S l.2.1 ∧ ¬ z_ak S l.2.1 = z_hm S l.2.1 ∧ l.2.2.1 = none ∧ l.2.2.2.1 = none ∧ zval S l.2.2.2.2.1 l.2.2.2.2.2) ∨
  (l.1 = 2 ∧ l.2.1 = 0 ∧ (∃ t, t < z_N S 0 ∧ l.2.2.1 = some t) ∧ l.2.2.2.1 = none ∧ l.2.2.2.2.2 = 0)
/-- whose messages and answers a wire has -/
def z_wp (S : zS) (w : Nat) : List Nat := ((z_W S w).filter (fun l => !(l.1 == 2))).map (fun l => l.2.1)
/-- no letter, and nothing that is to be done, is of p -/
def zFree (S : zS) (p : Nat) : Prop := p < z_N S 1 ∧ (∀ w, p ∉ z_wp S w) ∧ p ∉ (z_D S).map Prod.fst
def z_c2 (S : zS) : Nat := ((List.range 16).map (fun w => ((z_W S w).filter (fun l => l.1 == 2)).length)).sum
def z_ps (S : zS) : Nat := ((List.range (z_N S 2)).filter (fun w => !(z_F S 26 w == 0))).length
def zI (S : zS) : Prop :=
  zV S ∧
  (∀ w l, l ∈ z_W S w → w < 16 ∧ zLok S w l) ∧
  ((∀ w, (z_wp S w).Nodup) ∧ ∀ w w2 p, p ∈ z_wp S w → p ∈ z_wp S w2 → w = w2) ∧
  ((∀ d ∈ z_D S, d.1 < z_N S 1 ∧ z_F S 16 d.1 = 0 ∧ z_F S 11 d.1 = 0 ∧ zval S d.2.1 d.2.2 ∧ ∀ w, d.1 ∉ z_wp S w) ∧ ((z_D S).map Prod.fst).Nodup) ∧
  (∀ t p, p ∈ z_H S t → t < z_N S 0 ∧ p < z_N S 1 ∧ z_F S 16 p = 1 ∧ z_F S 11 p = 0 ∧ (z_F S 2 t = 5 ∨ z_F S 2 t = 6)) ∧
  ((∀ t, (z_H S t).Nodup) ∧ ∀ t t2 p, p ∈ z_H S t → p ∈ z_H S t2 → t = t2) ∧
  (∀ q p, p ∈ z_Q S q → q < z_N S 1 ∧ p < z_N S 1 ∧ z_F S 16 p = 2 ∧ z_F S 11 p = 0) ∧
  ((∀ t, (z_Q S t).Nodup) ∧ ∀ t t2 p, p ∈ z_Q S t → p ∈ z_Q S t2 → t = t2) ∧
  (∀ w p h, w < z_N S 2 → z_F S 23 w = nI p → p < z_N S 1 → z_F S 24 w = nI h → h < 4 → (if h = z_hm S p then z_F S 11 p = 0 else z_F S 13 p = 0) → z_F S 26 w = 0) ∧
  (z_c2 S ≤ z_ps S) ∧
  (∀ p, p < z_N S 1 → z_F S 20 p < 0 ∨ (z_F S 16 p = 3 ∧ ∃ t, t < z_N S 0 ∧ z_F S 20 p = nI t)) ∧
  (∀ p, p < z_N S 1 → (z_F S 11 p = 0 → z_F S 13 p = 0) ∧ (¬ z_F S 11 p = 0 → zval S (z_F S 11 p) (z_F S 12 p)))
-- counting
theorem nd_len : ∀ (n : Nat) (l : List Nat), l.Nodup → (∀ a ∈ l, a < n) → l.length ≤ n := by
  intro n
  induction n with
  | zero =>
    intro l _ h
    cases l with
    | nil => exact Nat.le_refl _
    | cons a l => exact absurd (h a List.mem_cons_self) (Nat.not_lt_zero _)
  | succ n ih =>
    intro l hn h
    have h1 := ih (l.filter (fun a => !(a == n))) (hn.filter _) (fun a ha => by
      rw [List.mem_filter] at ha
      have := h a ha.1
      have h2 : ¬ a = n := by simpa using ha.2
      omega)
    have h2 : ∀ (l : List Nat), l.Nodup → l.length ≤ (l.filter (fun a => !(a == n))).length + 1 := by
      intro l
      induction l with
      | nil => intro _; simp
      | cons a l ih2 =>
        intro hn
        have hn2 := List.nodup_cons.mp hn
        by_cases z : a = n
        · subst z
          have : l.filter (fun b => !(b == a)) = l := List.filter_eq_self.mpr (fun b hb => by
            have : ¬ b = a := fun y => hn2.1 (by rw [← y]; exact hb)
            simp [this])
          simp [this]
        · have := ih2 hn2.2
          simp [z]; omega
    have := h2 l hn
    omega
theorem fm_len {α : Type} (f : Nat → List α) : ∀ n, ((List.range n).flatMap f).length = ((List.range n).map (fun w => (f w).length)).sum := by
  intro n
  rw [List.length_flatMap]
theorem sum_split {α : Type} (g : α → Bool) (f : Nat → List α) : ∀ n, ((List.range n).map (fun w => (f w).length)).sum = ((List.range n).map (fun w => ((f w).filter (fun l => !g l)).length)).sum + ((List.range n).map (fun w => ((f w).filter g).length)).sum := by
  intro n
  induction n with
  | zero => rfl
  | succ n ih =>
    have h5 : ∀ (l : List α), l.length = (l.filter (fun e => !g e)).length + (l.filter g).length := by
      intro l
      induction l with
      | nil => rfl
      | cons a l ih =>
        cases z : g a
        · simp [z, ih]; omega
        · simp [z, ih]; omega
    rw [List.range_succ, List.map_append, List.map_append, List.map_append, List.sum_append, List.sum_append, List.sum_append, ih]
    have := h5 (f n)
    simp
    omega
theorem nd_flat (f : Nat → List Nat) : ∀ n, (∀ w, (f w).Nodup) → (∀ w w2 p, p ∈ f w → p ∈ f w2 → w = w2) → ((List.range n).flatMap f).Nodup := by
  intro n h h2
  induction n with
  | zero => simp
  | succ n ih =>
    rw [List.range_succ, List.flatMap_append, List.nodup_append]
    refine ⟨ih, by simpa using h n, ?_⟩
    intro a ha b hb e
    subst e
    rw [List.mem_flatMap] at ha
    obtain ⟨w, hw, hl⟩ := ha
    have hl2 : a ∈ f n := by simpa using hb
    have := h2 w n a hl hl2
    have := List.mem_range.mp hw
    omega
theorem mem_wp {S : zS} {w p : Nat} : p ∈ z_wp S w ↔ ∃ l, l ∈ z_W S w ∧ ¬ l.1 = 2 ∧ l.2.1 = p := by
  unfold z_wp
  rw [List.mem_map]
  constructor
  · rintro ⟨l, hl, e⟩
    rw [List.mem_filter] at hl
    exact ⟨l, hl.1, by simpa using hl.2, e⟩
  · rintro ⟨l, hl, h2, e⟩
    exact ⟨l, List.mem_filter.mpr ⟨hl, by simpa using h2⟩, e⟩
theorem zLok_lt {S : zS} {w : Nat} {l : zL} (h : zLok S w l) (h2 : ¬ l.1 = 2) : l.2.1 < z_N S 1 := by
  rcases h with h | h | h | h
  · exact h.2.1
  · exact h.2.1
  · exact h.2.1
  · exact absurd h.1 h2
/-- how many letters there are -/
theorem zI_cnt {S : zS} (h : zI S) : z_cnt S ≤ 140 := by
  obtain ⟨hv, ha, hb, -, -, -, -, -, -, hc, -⟩ := h
  have h1 : z_ps S ≤ z_N S 2 := by
    unfold z_ps
    exact Nat.le_trans (List.length_filter_le _ _) (by rw [List.length_range]; exact Nat.le_refl _)
  have h2 : ((List.range 16).map (fun w => ((z_W S w).filter (fun l => !(l.1 == 2))).length)).sum ≤ z_N S 1 := by
    have e := fm_len (z_wp S) 16
    have e2 : ((List.range 16).map (fun w => (z_wp S w).length)) = ((List.range 16).map (fun w => ((z_W S w).filter (fun l => !(l.1 == 2))).length)) := List.map_congr_left (fun w _ => by unfold z_wp; rw [List.length_map])
    rw [← e2, ← e]
    refine nd_len _ _ (nd_flat _ 16 hb.1 hb.2) ?_
    intro p hp
    rw [List.mem_flatMap] at hp
    obtain ⟨w, -, hp⟩ := hp
    obtain ⟨l, hl, h2, e3⟩ := mem_wp.mp hp
    rw [← e3]
    exact zLok_lt (ha w l hl).2 h2
  have h3 := sum_split (fun l : zL => l.1 == 2) (z_W S) 16
  unfold z_c2 at hc
  have h4 : z_cnt S = ((List.range 16).map (fun w => (z_W S w).length)).sum := by
    unfold z_cnt; rw [List.sum_eq_foldl]
  have := hv.1
  omega
def z_done (S : zS) : Nat := ((List.range (z_N S 1)).filter (fun p => !(z_F S 11 p == 0))).length
theorem zI_due {S : zS} (h : zI S) : z_done S + (z_D S).length ≤ 100 := by
  obtain ⟨hv, -, -, hd, -⟩ := h
  have h1 : ((z_D S).map Prod.fst).length ≤ ((List.range (z_N S 1)).filter (fun p => z_F S 11 p == 0)).length := by
    have sub : ∀ (l l2 : List Nat), l.Nodup → (∀ a ∈ l, a ∈ l2) → l.length ≤ l2.length := by
      intro l
      induction l with
      | nil => intro l2 _ _; exact Nat.zero_le _
      | cons a l ih =>
        intro l2 hn hs
        have hn2 := List.nodup_cons.mp hn
        have ha : a ∈ l2 := hs a List.mem_cons_self
        have := ih (l2.erase a) hn2.2 (fun b hb => (List.mem_erase_of_ne (fun z => hn2.1 (by rw [← z]; exact hb))).mpr (hs b (List.mem_cons_of_mem _ hb)))
        have e := List.length_erase_of_mem ha
        have : 0 < l2.length := List.length_pos_of_mem ha
        rw [List.length_cons]
        omega
    refine sub _ _ hd.2 (fun a ha => ?_)
    rw [List.mem_map] at ha
    obtain ⟨d, hd1, e⟩ := ha
    have := hd.1 d hd1
    rw [List.mem_filter, ← e]
    exact ⟨List.mem_range.mpr this.1, by simpa using this.2.2.1⟩
  rw [List.length_map] at h1
  have h2 : ∀ (l : List Nat), l.length = (l.filter (fun p => !(z_F S 11 p == 0))).length + (l.filter (fun p => z_F S 11 p == 0)).length := by
    intro l
    induction l with
    | nil => rfl
    | cons a l ih =>
      by_cases z : z_F S 11 a = 0
      · simp [z, ih]; omega
      · simp [z, ih]; omega
  have h3 := h2 (List.range (z_N S 1))
  rw [List.length_range] at h3
  have := hv.1
  unfold z_done
  omega
