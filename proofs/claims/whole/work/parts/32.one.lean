theorem free_of_Q {S : zS} {p q : Nat} (h : zI S) (hq : q ∈ z_Q S p) : zFree S q ∧ z_F S 20 q < 0 ∧ z_F S 11 q = 0 := by
  obtain ⟨hv, ha, hb, hc, hd, he, hg, hh, hi, hj, hk, hm⟩ := h
  obtain ⟨a1, a2, a3, a4⟩ := hg p q hq
  refine ⟨⟨a2, fun w z => ?_, fun z => ?_⟩, ?_, a4⟩
  · obtain ⟨l, hl, h2, e⟩ := mem_wp.mp z
    rcases (ha w l hl).2 with y | y | y | y
    · rw [e, a3] at y; exact absurd y.2.2.1 (by decide)
    · rw [e, a3] at y; exact absurd y.2.2.1 (by decide)
    · rw [e, a3] at y; exact absurd y.2.2.1 (by decide)
    · exact h2 y.1
  · rw [List.mem_map] at z
    obtain ⟨d, hd1, e⟩ := z
    have := (hc.1 d hd1).2.1
    rw [e, a3] at this
    exact absurd this (by decide)
  · rcases hk q a2 with y | y
    · exact y
    · rw [a3] at y; exact absurd y.1 (by decide)
theorem free_of_H {S : zS} {t q : Nat} (h : zI S) (hq : q ∈ z_H S t) : zFree S q ∧ z_F S 20 q < 0 ∧ z_F S 11 q = 0 := by
  obtain ⟨hv, ha, hb, hc, hd, he, hg, hh, hi, hj, hk, hm⟩ := h
  obtain ⟨a1, a2, a3, a4, -⟩ := hd t q hq
  refine ⟨⟨a2, fun w z => ?_, fun z => ?_⟩, ?_, a4⟩
  · obtain ⟨l, hl, h2, e⟩ := mem_wp.mp z
    rcases (ha w l hl).2 with y | y | y | y
    · rw [e, a3] at y; exact absurd y.2.2.1 (by decide)
    · rw [e, a3] at y; exact absurd y.2.2.1 (by decide)
    · rw [e, a3] at y; exact absurd y.2.2.1 (by decide)
    · exact h2 y.1
  · rw [List.mem_map] at z
    obtain ⟨d, hd1, e⟩ := z
    have := (hc.1 d hd1).2.1
    rw [e, a3] at this
    exact absurd this (by decide)
  · rcases hk q a2 with y | y
    · exact y
    · rw [a3] at y; exact absurd y.1 (by decide)
theorem drop_head {p : Nat} {l : List Nat} (h : (p :: l).Nodup) : (p :: l).filter (fun q => !(q == p)) = l := by
  have h1 := List.nodup_cons.mp h
  rw [List.filter_cons, if_neg (by simp)]
  exact List.filter_eq_self.mpr (fun q hq => by
    have : ¬ q = p := fun z => h1.1 (by rw [← z]; exact hq)
    simp [this])
theorem zval_congr {S S2 : zS} {st v : Int32} (h : zval S st v) (hN : z_N S2 = z_N S) : zval S2 st v := by
  unfold zval at *
  rw [hN]
  exact h
/-- the messages that waited for p go on, one by one -/
theorem I_gos {h p : Nat} {st v : Int32} (hh : h < 4) : ∀ (l : List Nat) (S : zS), zI S → z_Q S p = l → zval S st v → zI (z_gos S l h st v) ∧ z_N (z_gos S l h st v) = z_N S ∧ (∀ k, k ≠ 3 → k ≠ 13 → k ≠ 14 → k ≠ 15 → k ≠ 16 → k ≠ 20 → k ≠ 26 → z_F (z_gos S l h st v) k = z_F S k) ∧ (∀ q, q ∉ l → z_F (z_gos S l h st v) 13 q = z_F S 13 q ∧ z_F (z_gos S l h st v) 16 q = z_F S 16 q ∧ z_F (z_gos S l h st v) 20 q = z_F S 20 q ∧ (zFree S q → zFree (z_gos S l h st v) q)) := by
  intro l
  induction l with
  | nil => intro S hI _ _; exact ⟨hI, rfl, fun _ _ _ _ _ _ _ _ => rfl, fun _ _ => ⟨rfl, rfl, rfl, fun h => h⟩⟩
  | cons a l ih =>
    intro S hI hQ hz
    have ha : a ∈ z_Q S p := by rw [hQ]; exact List.mem_cons_self
    obtain ⟨f1, f2, f3⟩ := free_of_Q hI ha
    have hI1 := I_go hI f1 f3 f2 hz hh
    have hF := zFr_go (p := a) (S := S) (h := h) (st := st) (v := v)
    have hQ1 : z_Q (z_go S a h st v) p = l := by
      rw [HQ_go.2]
      show (z_Q S p).filter _ = l
      rw [hQ]
      exact drop_head (by rw [← hQ]; exact hI.2.2.2.2.2.2.2.1.1 p)
    obtain ⟨g1, g2, g3, g4⟩ := ih (z_go S a h st v) hI1 hQ1 (zval_congr hz hF.1)
    refine ⟨g1, g2.trans hF.1, fun k a b c d e f g => (g3 k a b c d e f g).trans (hF.2.1 k a b c d e f g), fun q hq => ?_⟩
    have q1 : q ≠ a := fun z => hq (by rw [z]; exact List.mem_cons_self)
    have q2 : q ∉ l := fun z => hq (List.mem_cons_of_mem _ z)
    obtain ⟨b1, b2, b3, b4⟩ := g4 q q2
    obtain ⟨c1, c2, c3⟩ := hF.2.2.1 q q1
    exact ⟨b1.trans c1, b2.trans c2, b3.trans c3, fun z => b4 (hF.2.2.2 q q1 z)⟩
/-- the promise p is done in its home: the numbers -/
theorem I_11 {S : zS} {p : Nat} {st v : Int32} (h : zI S) (hf : zFree S p) (h16 : z_F S 16 p = 0) (hz : zval S st v) : zI (zs_F (zs_F S 11 p st) 12 p v) := by
  obtain ⟨hv, ha, hb, hc, hd, he, hg, hh, hi, hj, hk, hm⟩ := h
  have f11 : ∀ q, z_F (zs_F (zs_F S 11 p st) 12 p v) 11 q = if q = p then st else z_F S 11 q := fun q => by
    rw [zF_ne (by decide), zF_eq]
    by_cases e : q = p
    · simp [e]
    · simp [e]
  have f12 : ∀ q, z_F (zs_F (zs_F S 11 p st) 12 p v) 12 q = if q = p then v else z_F S 12 q := fun q => by
    rw [zF_eq]
    by_cases e : q = p
    · simp [e]
    · simp [e]; exact zF_ne (by decide)
  have n11 : ∀ q, q ≠ p → z_F (zs_F (zs_F S 11 p st) 12 p v) 11 q = z_F S 11 q := fun q hq => by rw [f11, if_neg hq]
  refine ⟨hv, fun w l hl => ⟨(ha w l hl).1, ?_⟩, hb, ⟨fun d hd1 => ?_, hc.2⟩, ?_, he, ?_, hh, ?_, hj, hk, fun q hq => ?_⟩
  · have hne : ¬ l.1 = 2 → l.2.1 ≠ p := fun h2 z => hf.2.1 w (mem_wp.mpr ⟨l, hl, h2, z⟩)
    rcases (ha w l hl).2 with ⟨k1, h0⟩ | ⟨k1, h0⟩ | ⟨k1, h0⟩ | h0
    · exact Or.inl ⟨k1, h0.1, h0.2.1, by rw [n11 _ (hne (by omega))]; exact h0.2.2.1, h0.2.2.2⟩
    · exact Or.inr (Or.inl ⟨k1, h0.1, h0.2.1, by rw [n11 _ (hne (by omega))]; exact h0.2.2.1, h0.2.2.2⟩)
    · exact Or.inr (Or.inr (Or.inl ⟨k1, h0.1, h0.2.1, by rw [n11 _ (hne (by omega))]; exact h0.2.2.1, h0.2.2.2⟩))
    · exact Or.inr (Or.inr (Or.inr h0))
  · have hne : d.1 ≠ p := fun z => hf.2.2 (by rw [← z]; exact List.mem_map_of_mem hd1)
    obtain ⟨a1, a2, a3, a4⟩ := hc.1 d hd1
    exact ⟨a1, a2, by rw [n11 _ hne]; exact a3, a4⟩
  · intro t q hq
    obtain ⟨a1, a2, a3, a4, a5⟩ := hd t q hq
    have hne : q ≠ p := fun z => by rw [z, h16] at a3; exact absurd a3 (by decide)
    exact ⟨a1, a2, a3, by rw [n11 _ hne]; exact a4, a5⟩
  · intro t q hq
    obtain ⟨a1, a2, a3, a4⟩ := hg t q hq
    have hne : q ≠ p := fun z => by rw [z, h16] at a3; exact absurd a3 (by decide)
    exact ⟨a1, a2, a3, by rw [n11 _ hne]; exact a4⟩
  · intro w q h2 hw hq hq1 hh1 hh2 hs
    refine hi w q h2 hw hq hq1 hh1 hh2 ?_
    have hs2 : (if h2 = z_hm S q then z_F (zs_F (zs_F S 11 p st) 12 p v) 11 q = 0 else z_F S 13 q = 0) := hs
    by_cases e : h2 = z_hm S q
    · rw [if_pos e] at hs2 ⊢
      by_cases z : q = p
      · rw [f11, if_pos z] at hs2
        exact absurd hs2 (zval_ne hz)
      · rw [n11 q z] at hs2
        exact hs2
    · rw [if_neg e] at hs2 ⊢
      exact hs2
  · by_cases e : q = p
    · rw [f11, f12, if_pos e, if_pos e]
      exact ⟨fun z => absurd z (zval_ne hz), fun _ => hz⟩
    · rw [f11, f12, if_neg e, if_neg e]
      exact hm q hq
def z_one1 (S : zS) (p : Nat) (st v : Int32) : zS := zs_F (zs_F S 11 p st) 12 p v
def z_one2 (S : zS) (p : Nat) (st v : Int32) : zS := z_gos (z_one1 S p st v) (z_Q S p) (z_hm S p) st v
def z_one3 (S : zS) (p : Nat) (st v : Int32) : zS := if z_F S 9 p = z_F S 10 p then z_one2 S p st v else z_ansA (z_one2 S p st v) (z_hm S p) p st v
theorem one_eq {S : zS} {p : Nat} {st v : Int32} : z_one S p st v = z_pws (z_one3 S p st v) p (z_hm S p) st v := rfl
theorem I_one {S : zS} {p : Nat} {st v : Int32} (hI : zI S) (hf : zFree S p) (h16 : z_F S 16 p = 0) (h11 : z_F S 11 p = 0) (hz : zval S st v) :
    zI (z_one1 S p st v) ∧ (zI (z_one2 S p st v) ∧ zFree (z_one2 S p st v) p ∧ z_N (z_one2 S p st v) = z_N S ∧ (∀ k, k = 9 ∨ k = 10 → z_F (z_one2 S p st v) k = z_F S k) ∧ (∀ q, z_F (z_one2 S p st v) 11 q = if q = p then st else z_F S 11 q) ∧ z_F (z_one2 S p st v) 16 p = 0 ∧ z_F (z_one2 S p st v) 13 p = 0) ∧
    (zI (z_one3 S p st v) ∧ z_N (z_one3 S p st v) = z_N S ∧ (∀ k, k = 9 ∨ k = 10 → z_F (z_one3 S p st v) k = z_F S k) ∧ (∀ q, z_F (z_one3 S p st v) 11 q = if q = p then st else z_F S 11 q)) ∧ zI (z_one S p st v) ∧ z_N (z_one S p st v) = z_N S ∧ (∀ q, z_F (z_one S p st v) 11 q = if q = p then st else z_F S 11 q) := by
  have hp := hf.1
  have hm4 := (hI.1.2.2.1 p hp).2.1.2
  have h1 : zI (z_one1 S p st v) := I_11 hI hf h16 hz
  have n11 : ∀ q, z_F (z_one1 S p st v) 11 q = if q = p then st else z_F S 11 q := fun q => by
    unfold z_one1
    rw [zF_ne (by decide), zF_eq]
    by_cases e : q = p
    · simp [e]
    · simp [e]
  have hpQ : p ∉ z_Q S p := fun z => by
    have := (hI.2.2.2.2.2.2.1 p p z).2.2.1
    rw [h16] at this
    exact absurd this (by decide)
  obtain ⟨g1, g2, g3, g4⟩ := I_gos (p := p) hm4 (z_Q S p) (z_one1 S p st v) h1 rfl hz
  obtain ⟨k1, k2, k3, k4⟩ := g4 p hpQ
  have h13 : z_F S 13 p = 0 := (hI.2.2.2.2.2.2.2.2.2.2.2 p hp).1 h11
  have s2 : zI (z_one2 S p st v) ∧ zFree (z_one2 S p st v) p ∧ z_N (z_one2 S p st v) = z_N S ∧ (∀ k, k = 9 ∨ k = 10 → z_F (z_one2 S p st v) k = z_F S k) ∧ (∀ q, z_F (z_one2 S p st v) 11 q = if q = p then st else z_F S 11 q) ∧ z_F (z_one2 S p st v) 16 p = 0 ∧ z_F (z_one2 S p st v) 13 p = 0 := by
    refine ⟨g1, k4 hf, g2, fun k hk => ?_, fun q => ?_, ?_, ?_⟩
    · refine (g3 k (by omega) (by omega) (by omega) (by omega) (by omega) (by omega) (by omega)).trans ?_
      rcases hk with rfl | rfl <;> rfl
    · have : z_F (z_one2 S p st v) 11 = z_F (z_one1 S p st v) 11 := g3 11 (by omega) (by omega) (by omega) (by omega) (by omega) (by omega) (by omega)
      rw [this]; exact n11 q
    · exact k2.trans h16
    · exact k1.trans h13
  have s3 : zI (z_one3 S p st v) ∧ z_N (z_one3 S p st v) = z_N S ∧ (∀ k, k = 9 ∨ k = 10 → z_F (z_one3 S p st v) k = z_F S k) ∧ (∀ q, z_F (z_one3 S p st v) 11 q = if q = p then st else z_F S 11 q) := by
    obtain ⟨a1, a2, a3, a4, a5, a6, a7⟩ := s2
    unfold z_one3
    split
    · exact ⟨a1, a3, a4, a5⟩
    · rename_i hne
      have hF := zFr_ansA (p := p) (S := z_one2 S p st v) (h := z_hm S p) (st := st) (v := v)
      refine ⟨I_ansA a1 a2 a6 (by rw [a5, if_pos rfl]; exact zval_ne hz) a7 ?_ (zval_congr hz a3) hm4, hF.1.trans a3, fun k hk => ?_, fun q => ?_⟩
      · intro e
        have e1 : z_ak (z_one2 S p st v) p = z_ak S p := by unfold z_ak; rw [a4 9 (Or.inl rfl)]
        have e2 : z_hm (z_one2 S p st v) p = z_hm S p := by unfold z_hm; rw [a4 10 (Or.inr rfl)]
        rw [e1, e2] at e
        apply hne
        rw [(hI.1.2.2.1 p hp).1.1, (hI.1.2.2.1 p hp).2.1.1, e]
      · rw [hF.2.1 k (by omega) (by omega) (by omega) (by omega) (by omega) (by omega) (by omega)]; exact a4 k hk
      · rw [hF.2.1 11 (by omega) (by omega) (by omega) (by omega) (by omega) (by omega) (by omega)]; exact a5 q
  refine ⟨h1, s2, s3, ?_⟩
  obtain ⟨b1, b2, b3, b4⟩ := s3
  have hw := zFw_pws (S := z_one3 S p st v) (p := p) (h := z_hm S p) (st := st) (v := v)
  rw [one_eq]
  refine ⟨I_pws b1 (by rw [b2]; exact hp) hm4 ?_, hw.1.trans b2, fun q => ?_⟩
  · have e2 : z_hm (z_one3 S p st v) p = z_hm S p := by unfold z_hm; rw [b3 10 (Or.inr rfl)]
    rw [e2, if_pos rfl, b4, if_pos rfl]
    exact zval_ne hz
  · rw [hw.2.1 11 (by decide)]; exact b4 q
