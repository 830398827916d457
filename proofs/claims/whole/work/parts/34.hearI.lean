/-! HEARING: what holds stays -/
def zHf (S : zS) (hand : Option Nat) : Prop := ∀ p, hand = some p → zFree S p ∧ z_F S 11 p = 0 ∧ z_F S 20 p < 0 ∧ z_F S 16 p = 3
theorem I_answer {S : zS} {hand : Option Nat} {t : Nat} {st v : Int32} (hI : zI S) (hf : zHf S hand) (ht : t < z_N S 0) (hz : zval S st v) : zI (z_answer S hand t st v) := by
  cases hand with
  | none => exact hI
  | some p =>
    obtain ⟨f1, f2, f3, -⟩ := hf p rfl
    exact I_settle hI f1 f2 f3 hz (hI.1.2.1 t ht).1.2
theorem zv1 {S : zS} {v : Int32} : zval S 1 v := Or.inl rfl
theorem zv3 {S : zS} {v : Int32} : zval S 3 v := Or.inr (Or.inr rfl)
theorem zv2 {S : zS} {t : Nat} (ht : t < z_N S 0) : zval S 2 (nI t) := Or.inr (Or.inl ⟨rfl, t, ht, rfl⟩)
theorem I_cell1 {S : zS} {hand : Option Nat} {t : Nat} {act n : Int32} (hI : zI S) (hf : zHf S hand) (ht : t < z_N S 0) : zI (z_cell1 S hand t act n) := by
  have h3 : ∀ v, zI (zs_F S 3 t v) := fun v => I_3 hI
  unfold z_cell1
  split
  · exact I_answer hI hf ht zv1
  · split
    · exact I_answer (h3 _) hf ht zv1
    · split
      · exact I_answer (h3 _) hf ht zv1
      · split
        · exact I_answer (h3 _) hf ht zv1
        · split
          · exact I_answer hI hf ht (zv2 (S := S) ht)
          · exact I_answer hI hf ht zv3
theorem I_cell {S : zS} {hand : Option Nat} {t : Nat} {act n : Int32} (hI : zI S) (hf : zHf S hand) (ht : t < z_N S 0) : zI (z_cell S hand t act n) := by
  have key : ∀ r, zI (z_cell1 (zs_r S r) hand t act n) := fun r => I_cell1 (I_r hI) hf ht
  exact key _
theorem I_mv {S : zS} {p t : Nat} {v : Int32} (hI : zI S) (hf : zFree S p) (h16 : z_F S 16 p = 3) (ht : t < z_N S 0) : zI (zs_F (zs_F (zs_F S 3 t v) 17 p 2) 20 p (nI t)) := by
  obtain ⟨⟨v1, v2, v3, v4⟩, ha, hb, hc, hd, he, hg, hh, hi, hj, hk, hm⟩ := hI
  have h17 : ∀ q, z_F (zs_F (zs_F (zs_F S 3 t v) 17 p 2) 20 p (nI t)) 17 q = if q = p then 2 else z_F S 17 q := fun q => by
    rw [zF_ne (by decide), zF_eq]
    by_cases e : q = p
    · simp [e]
    · simp [e]; rw [zF_ne (by decide)]
  have h20 : ∀ q, z_F (zs_F (zs_F (zs_F S 3 t v) 17 p 2) 20 p (nI t)) 20 q = if q = p then nI t else z_F S 20 q := fun q => by
    rw [zF_eq]
    by_cases e : q = p
    · simp [e]
    · simp [e]; rw [zF_ne (by decide), zF_ne (by decide)]
  refine ⟨⟨v1, v2, fun q hq => ?_, v4⟩, fun w l hl => ⟨(ha w l hl).1, ?_⟩, hb, hc, hd, he, hg, hh, hi, hj, fun q hq => ?_, hm⟩
  rotate_left
  · have hne : ¬ l.1 = 2 → l.2.1 ≠ p := fun h2 z => hf.2.1 w (mem_wp.mpr ⟨l, hl, h2, z⟩)
    rcases (ha w l hl).2 with ⟨k1, k2, k3, k4, k5, k6⟩ | h0 | h0 | h0
    · refine Or.inl ⟨k1, k2, k3, k4, ?_, k6⟩
      rcases k5 with z | ⟨q, z1, z2, z3, z4⟩
      · exact Or.inl z
      · refine Or.inr ⟨q, z1, z2, z3, ?_⟩
        rw [h20, if_neg (hne (by omega))]
        exact z4
    · exact Or.inr (Or.inl h0)
    · exact Or.inr (Or.inr (Or.inl h0))
    · exact Or.inr (Or.inr (Or.inr h0))
  rotate_left
  · obtain ⟨a1, a2, a3, a4⟩ := v3 q hq
    rw [h17]
    by_cases e : q = p
    · rw [if_pos e]
      exact ⟨a1, a2, ⟨2, by omega, rfl⟩, fun z => absurd z (by decide)⟩
    · rw [if_neg e]
      exact ⟨a1, a2, a3, a4⟩
  · rw [h20]
    by_cases e : q = p
    · rw [if_pos e]
      exact Or.inr ⟨by rw [e]; exact h16, t, ht, rfl⟩
    · rw [if_neg e]
      exact hk q hq
theorem I_move {S : zS} {p t : Nat} {n : Int32} (hI : zI S) (hf : zHf S (some p)) (ht : t < z_N S 0) (h17 : z_F S 17 p = 4) : zI (z_move S p t n) := by
  obtain ⟨f1, f2, f3, f4⟩ := hf p rfl
  have hh := (hI.1.2.1 t ht).1.2
  obtain ⟨o, ho, eo⟩ := (hI.1.2.2.1 p f1.1).2.2.2 h17
  have b := hI.1.1
  unfold z_move
  split
  · exact I_settle hI f1 f2 f3 zv3 hh
  · split
    · exact I_settle hI f1 f2 f3 zv3 hh
    · rw [eo, cl40 (by omega)]
      exact I_sendT (I_mv hI f1 f4 ht) f1 f2 hh ho
theorem I_purse1 {S : zS} {hand : Option Nat} {t : Nat} {act n : Int32} (hI : zI S) (hf : zHf S hand) (ht : t < z_N S 0) (ha : ∀ p, hand = some p → z_F S 17 p = act) : zI (z_purse1 S hand t act n) := by
  unfold z_purse1
  split
  · exact I_answer hI hf ht zv3
  · split
    · exact I_answer hI hf ht zv3
    · split
      · rename_i e
        cases hand with
        | none => exact hI
        | some p => exact I_move hI hf ht ((ha p rfl).trans e)
      · exact I_cell hI hf ht
theorem I_purse {S : zS} {hand : Option Nat} {t : Nat} {act n : Int32} (hI : zI S) (hf : zHf S hand) (ht : t < z_N S 0) (ha : ∀ p, hand = some p → z_F S 17 p = act) : zI (z_purse S hand t act n) := by
  have key : ∀ r, zI (z_purse1 (zs_r S r) hand t act n) := fun r => I_purse1 (I_r hI) hf ht ha
  exact key _
theorem zF_N {S : zS} {a b : Nat} : z_F (zs_N S a b) = z_F S := rfl
theorem zF_new {S : zS} {h k n g a : Int32} {f j : Nat} : z_F (z_new S h k n g a) f j = if f = 8 ∧ j = z_N S 0 then 0 else if f = 7 ∧ j = z_N S 0 then 0 else if f = 6 ∧ j = z_N S 0 then 0 else if f = 5 ∧ j = z_N S 0 then a else if f = 4 ∧ j = z_N S 0 then g else if f = 3 ∧ j = z_N S 0 then n else if f = 2 ∧ j = z_N S 0 then k else if f = 1 ∧ j = z_N S 0 then h else z_F S f j := by
  simp only [z_new]
  rw [zF_N]
  simp only [zF_eq]
theorem I_new {S : zS} {h k : Nat} {n a : Int32} {g : Option Nat} (hI : zI S) (hN : z_N S 0 < 40) (hh : h < 4) (hk : k ≤ 6) (hg1 : k = 3 ∨ k = 4 → ∃ t, t < z_N S 0 ∧ g = some t) (hg2 : ¬ (k = 3 ∨ k = 4) → g = none) : zI (z_new S (nI h) (nI k) n (zOI g) a) := by
  obtain ⟨⟨v1, v2, v3, v4, v5, v6, v7⟩, ha, hb, hc, hd, he, hg, hh2, hi, hj, hkk, hm⟩ := hI
  have hF : ∀ f j, (¬ (1 ≤ f ∧ f ≤ 8) ∨ j ≠ z_N S 0) → z_F (z_new S (nI h) (nI k) n (zOI g) a) f j = z_F S f j := by
    intro f j hfj
    rw [zF_new]
    repeat rw [if_neg (by omega)]
  have hN0 : z_N (z_new S (nI h) (nI k) n (zOI g) a) 0 = z_N S 0 + 1 := rfl
  have hN1 : z_N (z_new S (nI h) (nI k) n (zOI g) a) 1 = z_N S 1 := rfl
  have hN2 : z_N (z_new S (nI h) (nI k) n (zOI g) a) 2 = z_N S 2 := rfl
  have hF9 : ∀ f, 9 ≤ f → z_F (z_new S (nI h) (nI k) n (zOI g) a) f = z_F S f := fun f hf => by funext j; exact hF f j (Or.inl (by omega))
  have hW : z_W (z_new S (nI h) (nI k) n (zOI g) a) = z_W S := rfl
  have e1 : z_F (z_new S (nI h) (nI k) n (zOI g) a) 1 (z_N S 0) = nI h := by
    rw [zF_new]; simp
  have e2 : z_F (z_new S (nI h) (nI k) n (zOI g) a) 2 (z_N S 0) = nI k := by
    rw [zF_new]; simp
  have e4 : z_F (z_new S (nI h) (nI k) n (zOI g) a) 4 (z_N S 0) = zOI g := by
    rw [zF_new]; simp
  have hval : ∀ st v, zval S st v → zval (z_new S (nI h) (nI k) n (zOI g) a) st v := by
    intro st v hz
    rcases hz with z | ⟨z, t, ht, e⟩ | z
    · exact Or.inl z
    · exact Or.inr (Or.inl ⟨z, t, by rw [hN0]; omega, e⟩)
    · exact Or.inr (Or.inr z)
  have hhs : ∀ t, t < z_N S 0 → z_hs (z_new S (nI h) (nI k) n (zOI g) a) t = z_hs S t := fun t ht => by
    unfold z_hs; rw [hF 1 t (Or.inr (by omega))]
  have hak : ∀ p, z_ak (z_new S (nI h) (nI k) n (zOI g) a) p = z_ak S p := fun p => by unfold z_ak; rw [hF9 9 (by omega)]
  have hhm : ∀ p, z_hm (z_new S (nI h) (nI k) n (zOI g) a) p = z_hm S p := fun p => by unfold z_hm; rw [hF9 10 (by omega)]
  have kne : ∀ x : Nat, x < 10 → (nI k = nI x ↔ k = x) := fun x hx => nI_eq (by omega) (by omega)
  refine ⟨⟨⟨by rw [hN0]; omega, v1.2⟩, fun t ht => ?_, fun p hp => ?_, fun w hw => ?_, ?_, ?_, ?_⟩, fun w l hl => ⟨(ha w l hl).1, ?_⟩, hb, ⟨fun d hd1 => ?_, hc.2⟩, fun t p hp => ?_, he, fun t p hp => ?_, hh2, fun w p h2 => ?_, ?_, fun p hp => ?_, fun p hp => ?_⟩
  · by_cases e : t = z_N S 0
    · subst e
      refine ⟨⟨?_, ?_⟩, ⟨k, hk, e2⟩, fun z => ?_, fun z => ?_⟩
      · unfold z_hs; rw [e1, cl40 (by omega)]
      · unfold z_hs; rw [e1, cl40 (by omega)]; exact hh
      · rw [e2, show (3 : Int32) = nI 3 from rfl, show (4 : Int32) = nI 4 from rfl, kne 3 (by omega), kne 4 (by omega)] at z
        obtain ⟨g2, hg3, hg4⟩ := hg1 z
        exact ⟨g2, by rw [hN0]; omega, by rw [e4, hg4]; rfl⟩
      · rw [e2, show (3 : Int32) = nI 3 from rfl, show (4 : Int32) = nI 4 from rfl, kne 3 (by omega), kne 4 (by omega)] at z
        rw [e4, hg2 z]; rfl
    · have ht2 : t < z_N S 0 := by rw [hN0] at ht; omega
      obtain ⟨a1, a2, a3, a4⟩ := v2 t ht2
      rw [hhs t ht2, hF 1 t (Or.inr e), hF 2 t (Or.inr e), hF 4 t (Or.inr e)]
      refine ⟨a1, a2, fun z => ?_, a4⟩
      obtain ⟨g2, hg3, hg4⟩ := a3 z
      exact ⟨g2, by rw [hN0]; omega, hg4⟩
  · obtain ⟨a1, a2, a3, a4⟩ := v3 p hp
    rw [hak, hhm, hF9 9 (by omega), hF9 10 (by omega), hF9 17 (by omega), hF9 19 (by omega)]
    refine ⟨a1, a2, a3, fun z => ?_⟩
    obtain ⟨o, ho, eo⟩ := a4 z
    exact ⟨o, by rw [hN0]; omega, eo⟩
  · obtain ⟨p, h3, t, a1, a2, a3, a4, a5, a6, a7, a8⟩ := v4 w hw
    refine ⟨p, h3, t, a1, by rw [hF9 23 (by omega)]; exact a2, a3, by rw [hF9 24 (by omega)]; exact a4, by rw [hak, hhm]; exact a5, by rw [hN0]; omega, by rw [hF9 25 (by omega)]; exact a7, by rw [hhs t a6]; exact a8⟩
  · rw [hF9 36 (by omega)]; exact v5
  · rw [hF9 36 (by omega)]; exact v6
  · rw [hF9 36 (by omega)]; exact v7
  · unfold zLok
    rw [hF9 16 (by omega), hF9 11 (by omega), hF9 13 (by omega), hF9 20 (by omega), hhm, hak, hN0, hN1]
    rcases (ha w l hl).2 with ⟨k1, k2, k3, k4, k5, k6⟩ | ⟨k1, k2, k3, k4, k5, k6, k7, k8⟩ | ⟨k1, k2, k3, k4, k5, k6, k7, k8, k9, k10⟩ | ⟨k1, k2, ⟨t, k3, k4⟩, k5⟩
    · refine Or.inl ⟨k1, k2, k3, k4, ?_, k6⟩
      rcases k5 with ⟨t, z1, z2⟩ | z
      · exact Or.inl ⟨t, by omega, z2⟩
      · exact Or.inr z
    · exact Or.inr (Or.inl ⟨k1, k2, k3, k4, k5, k6, k7, hval _ _ k8⟩)
    · exact Or.inr (Or.inr (Or.inl ⟨k1, k2, k3, k4, k5, k6, k7, k8, k9, hval _ _ k10⟩))
    · exact Or.inr (Or.inr (Or.inr ⟨k1, k2, ⟨t, by omega, k4⟩, k5⟩))
  · obtain ⟨a1, a2, a3, a4, a5⟩ := hc.1 d hd1
    rw [hF9 16 (by omega), hF9 11 (by omega), hN1]
    exact ⟨a1, a2, a3, hval _ _ a4, a5⟩
  · obtain ⟨a1, a2, a3, a4, a5⟩ := hd t p hp
    rw [hF9 16 (by omega), hF9 11 (by omega), hN1, hN0, hF 2 t (Or.inr (by omega))]
    exact ⟨by omega, a2, a3, a4, a5⟩
  · rw [hF9 16 (by omega), hF9 11 (by omega), hN1]
    exact hg t p hp
  · rw [hF9 23 (by omega), hF9 24 (by omega), hF9 26 (by omega), hF9 11 (by omega), hF9 13 (by omega), hhm, hN1, hN2]
    exact hi w p h2
  · have : z_ps (z_new S (nI h) (nI k) n (zOI g) a) = z_ps S := ps_congr rfl (fun w => by rw [hF9 26 (by omega)])
    rw [this]
    exact hj
  · rw [hF9 16 (by omega), hF9 20 (by omega), hN0]
    rcases hkk p hp with z | ⟨z, t, ht, e⟩
    · exact Or.inl z
    · exact Or.inr ⟨z, t, by omega, e⟩
  · rw [hF9 11 (by omega), hF9 12 (by omega), hF9 13 (by omega)]
    exact ⟨(hm p hp).1, fun z => hval _ _ ((hm p hp).2 z)⟩
