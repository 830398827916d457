theorem zdrop_id {p : Nat} {f : Nat → List Nat} (h : ∀ t, p ∉ f t) : zdrop p f = f := by
  funext t
  unfold zdrop
  exact List.filter_eq_self.mpr (fun q hq => by
    have : ¬ q = p := fun z => h t (by rw [← z]; exact hq)
    simp [this])
def z_frees (S : zS) (l : List Nat) (t : Nat) (v : Int32) : zS := l.foldl (fun S p => z_settle S p (z_hs S t) 1 v) S
theorem free_eq {S : zS} {t : Nat} {v : Int32} : z_free S t v = z_frees (zs_F S 8 t 0) (z_H S t) t v := rfl
theorem I_frees {t : Nat} {v : Int32} : ∀ (l : List Nat) (S : zS), zI S → t < z_N S 0 → z_H S t = l → zI (z_frees S l t v) ∧ z_N (z_frees S l t v) = z_N S ∧ (∀ k, k ≠ 3 → k ≠ 13 → k ≠ 14 → k ≠ 15 → k ≠ 16 → k ≠ 20 → k ≠ 26 → z_F (z_frees S l t v) k = z_F S k) ∧ (∀ t2, z_H (z_frees S l t v) t2 = if t2 = t then [] else z_H S t2) := by
  intro l
  induction l with
  | nil =>
    intro S hI ht hH
    refine ⟨hI, rfl, fun _ _ _ _ _ _ _ _ => rfl, fun t2 => ?_⟩
    by_cases e : t2 = t
    · rw [if_pos e, e]; exact hH
    · rw [if_neg e]; rfl
  | cons a l ih =>
    intro S hI ht hH
    have hain : a ∈ z_H S t := by rw [hH]; exact List.mem_cons_self
    obtain ⟨f1, f2, f3⟩ := free_of_H hI hain
    have hh := (hI.1.2.1 t ht).1.2
    have hF := zFr_settle (p := a) (S := S) (h := z_hs S t) (st := 1) (v := v)
    have hI2 := I_settle (h := z_hs S t) hI f1 f3 f2 (zv1 (v := v)) hh
    have hQ := HQ_settle (p := a) (S := S) (h := z_hs S t) (st := 1) (v := v)
    have hH1 : z_H (z_settle S a (z_hs S t) 1 v) t = l := by
      rw [hQ.1]
      show (z_H S t).filter _ = l
      rw [hH]
      exact drop_head (by rw [← hH]; exact hI.2.2.2.2.2.1.1 t)
    obtain ⟨g1, g2, g3, g4⟩ := ih (z_settle S a (z_hs S t) 1 v) hI2 (by rw [hF.1]; exact ht) hH1
    refine ⟨g1, g2.trans hF.1, fun k a b c d e f g => (g3 k a b c d e f g).trans (hF.2.1 k a b c d e f g), fun t2 => ?_⟩
    show z_H (z_frees (z_settle S a (z_hs S t) 1 v) l t v) t2 = _
    rw [g4]
    by_cases e : t2 = t
    · rw [if_pos e, if_pos e]
    · rw [if_neg e, if_neg e, hQ.1]
      exact List.filter_eq_self.mpr (fun q hq => by
        have : ¬ q = a := fun z => e (hI.2.2.2.2.2.1.2 t2 t a (by rw [← z]; exact hq) hain)
        simp [this])
theorem I_free {S : zS} {t : Nat} {v : Int32} (hI : zI S) (ht : t < z_N S 0) : zI (z_free S t v) ∧ z_N (z_free S t v) = z_N S ∧ (∀ k, k ≠ 3 → k ≠ 8 → k ≠ 13 → k ≠ 14 → k ≠ 15 → k ≠ 16 → k ≠ 20 → k ≠ 26 → z_F (z_free S t v) k = z_F S k) ∧ (∀ t2, z_H (z_free S t v) t2 = if t2 = t then [] else z_H S t2) ∧ (∀ t2, z_F (z_free S t v) 8 t2 = if t2 = t then 0 else z_F S 8 t2) := by
  rw [free_eq]
  obtain ⟨g1, g2, g3, g4⟩ := I_frees (v := v) (z_H S t) (zs_F S 8 t 0) (I_8 hI) ht rfl
  refine ⟨g1, g2, fun k a b c d e f g i => ?_, g4, fun t2 => ?_⟩
  · rw [g3 k a c d e f g i]
    funext j; exact zF_ne b
  · rw [g3 8 (by omega) (by omega) (by omega) (by omega) (by omega) (by omega) (by omega), zF_eq]
    by_cases e : t2 = t
    · simp [e]
    · simp [e]
theorem zF_hold {S : zS} {p t k j : Nat} : z_F (z_hold S p t) k j = if k = 8 ∧ j = t then z_F S 8 t + 1 else if k = 16 ∧ j = p then 1 else z_F S k j := rfl
theorem I_joiner1 {S : zS} {hand : Option Nat} {t : Nat} {act : Int32} (hI : zI S) (hf : zHf S hand) (ht : t < z_N S 0) (hk : z_F S 2 t = 5 ∨ z_F S 2 t = 6) : zI (z_joiner1 S hand t act) := by
  unfold z_joiner1
  split
  · cases hand with
    | none => exact hI
    | some p =>
      have h2 : zI (z_hold S p t) := I_hold hI hf ht hk
      show zI (if _ then _ else _)
      split
      · exact h2
      · exact (I_free h2 ht).1
  · split
    · exact I_answer hI hf ht zv1
    · split
      · exact I_answer hI hf ht (zv2 (S := S) ht)
      · exact I_answer hI hf ht zv3
theorem I_joiner {S : zS} {hand : Option Nat} {t : Nat} {act : Int32} (hI : zI S) (hf : zHf S hand) (ht : t < z_N S 0) (hk : z_F S 2 t = 5 ∨ z_F S 2 t = 6) : zI (z_joiner S hand t act) := by
  have key : ∀ r, zI (z_joiner1 (zs_r S r) hand t act) := fun r => I_joiner1 (I_r hI) hf ht hk
  exact key _
theorem I_sleeper1 {S : zS} {hand : Option Nat} {t : Nat} {act : Int32} (hI : zI S) (hf : zHf S hand) (ht : t < z_N S 0) (hk : z_F S 2 t = 5 ∨ z_F S 2 t = 6) : zI (z_sleeper1 S hand t act) := by
  unfold z_sleeper1
  split
  · cases hand with
    | none => exact hI
    | some p => exact I_hold hI hf ht hk
  · exact I_joiner hI hf ht hk
theorem I_sleeper {S : zS} {hand : Option Nat} {t : Nat} {act : Int32} (hI : zI S) (hf : zHf S hand) (ht : t < z_N S 0) (hk : z_F S 2 t = 5 ∨ z_F S 2 t = 6) : zI (z_sleeper S hand t act) := by
  have key : ∀ r, zI (z_sleeper1 (zs_r S r) hand t act) := fun r => I_sleeper1 (I_r hI) hf ht hk
  exact key _
/-- whom a letter of that sort may come to, and with what -/
def zHn (S : zS) (hand : Option Nat) (t : Nat) (act n : Int32) : Prop := zHf S hand ∧ t < z_N S 0 ∧ (∀ p, hand = some p → z_F S 17 p = act ∧ z_F S 18 p = n) ∧ (hand = none → z_c2 S + 1 ≤ z_ps S ∧ act = 2)
theorem kind_6 {S : zS} {t : Nat} (hI : zI S) (ht : t < z_N S 0) (h0 : ¬ z_F S 2 t = 0) (h1 : ¬ z_F S 2 t = 1) (h2 : ¬ z_F S 2 t = 2) (h3 : ¬ z_F S 2 t = 3) (h4 : ¬ z_F S 2 t = 4) (h5 : ¬ z_F S 2 t = 5) : z_F S 2 t = 6 := by
  obtain ⟨-, ⟨k, hk, e⟩, -⟩ := hI.1.2.1 t ht
  rw [e] at h0 h1 h2 h3 h4 h5 ⊢
  have : k = 0 ∨ k = 1 ∨ k = 2 ∨ k = 3 ∨ k = 4 ∨ k = 5 ∨ k = 6 := by omega
  rcases this with z | z | z | z | z | z | z <;> subst z
  · exact absurd rfl h0
  · exact absurd rfl h1
  · exact absurd rfl h2
  · exact absurd rfl h3
  · exact absurd rfl h4
  · exact absurd rfl h5
  · rfl
theorem I_hear1 {S : zS} {hand : Option Nat} {t : Nat} {act n : Int32} (hI : zI S) (hn : zHn S hand t act n) : zI (z_hear1 S hand t act n) := by
  obtain ⟨hf, ht, ha, hw⟩ := hn
  unfold z_hear1
  split
  · exact I_cell hI hf ht
  · split
    · exact I_purse hI hf ht (fun p e => (ha p e).1)
    · split
      · exact I_maker hI hf ht
      · split
        · rename_i e
          exact I_guard hI hf ht (Or.inl e) (fun z => (hw z).1)
        · split
          · rename_i e
            exact I_switch hI hf ht (Or.inr e) (fun z => (hw z).1)
          · split
            · rename_i e
              exact I_joiner hI hf ht (Or.inl e)
            · rename_i e0 e1 e2 e3 e4 e5
              exact I_sleeper hI hf ht (Or.inr (kind_6 hI ht e0 e1 e2 e3 e4 e5))
theorem I_hear {S : zS} {hand : Option Nat} {t : Nat} {act n : Int32} (hI : zI S) (hn : zHn S hand t act n) : zI (z_hear S hand t act n) := by
  have key : ∀ r, zI (z_hear1 (zs_u S r) hand t act n) := fun r => I_hear1 (I_u hI) hn
  exact key _
theorem I_40 {S : zS} {i : Nat} {v : Int32} (h : zI S) : zI (zs_F S 40 i v) := h
/-- off its wire: what comes then -/
def z_off (S : zS) (w : Nat) (l : zL) (ls : List zL) : zS := zs_F (zs_W S w ls) 40 0 (z_lk l)
theorem I_off {S : zS} {w : Nat} {l : zL} {ls : List zL} (h : zI S) (e : z_W S w = l :: ls) : zI (z_off S w l ls) ∧ (¬ l.1 = 2 → zFree (z_off S w l ls) l.2.1) ∧ (l.1 = 2 → z_c2 (z_off S w l ls) + 1 ≤ z_ps (z_off S w l ls)) ∧ w < 16 ∧ zLok (z_off S w l ls) w l := by
  obtain ⟨a1, a2, a3, a4, a5⟩ := I_tail h e
  exact ⟨I_40 a1, a2, a3, a4, a5⟩
theorem zHn_msg {S : zS} {w p t : Nat} {l : zL} (hI : zI S) (hf : zFree S p) (hl : zLok S w l) (h0 : l.1 = 0) (ep : l.2.1 = p) (et : l.2.2.1 = some t) : zI (zs_F S 20 p (-1)) ∧ zHn (zs_F S 20 p (-1)) (some p) t (z_F S 17 p) (z_F S 18 p) := by
  rcases hl with ⟨k1, k2, k3, k4, k5, k6⟩ | ⟨k1, -⟩ | ⟨k1, -⟩ | ⟨k1, -⟩
  · rw [ep] at k2 k3 k4
    refine ⟨I_20 hI, fun q e => ?_, ?_, fun q e => ?_, fun z => by cases z⟩
    · cases e
      refine ⟨hf, k4, ?_, k3⟩
      rw [zF_eq, if_pos ⟨rfl, rfl⟩]; decide
    · rcases k5 with ⟨t2, z1, z2, z3⟩ | ⟨q, z1, z2, z3, -⟩
      · rw [et] at z2; cases z2; exact z1
      · rw [et] at z2; cases z2
    · cases e
      exact ⟨rfl, rfl⟩
  · omega
  · omega
  · omega
theorem I_come {S : zS} {w : Nat} {l : zL} (hI : zI S) (hf : ¬ l.1 = 2 → zFree S l.2.1) (hc : l.1 = 2 → z_c2 S + 1 ≤ z_ps S) (hl : zLok S w l) : zI (z_come S l) := by
  unfold z_come
  have hl0 := hl
  split
  · rename_i h1
    rcases hl with ⟨k1, -⟩ | ⟨k1, k2, k3, k4, k5, k6, k7, k8⟩ | ⟨k1, -⟩ | ⟨k1, -⟩
    · omega
    · exact I_due hI (hf (by omega)) k3 k4 k8
    · omega
    · omega
  · rename_i n1
    split
    · rename_i h3
      rcases hl with ⟨k1, -⟩ | ⟨k1, -⟩ | ⟨k1, k2, k3, k4, k5, k6, k7, k8, k9, k10⟩ | ⟨k1, -⟩
      · omega
      · omega
      · exact I_arr hI (hf (by omega)) k4 k10
      · omega
    · rename_i n3
      split
      · rename_i t et
        split
        · rename_i h0
          obtain ⟨i1, i2⟩ := zHn_msg hI (hf (by omega)) hl h0 rfl et
          exact I_hear i1 i2
        · rename_i n0
          rcases hl with ⟨k1, -⟩ | ⟨k1, -⟩ | ⟨k1, -⟩ | ⟨k1, k2, ⟨t2, k3, k4⟩, k5, k6⟩
          · omega
          · omega
          · omega
          · rw [et] at k4; cases k4
            refine I_hear hI ⟨fun q e => (by cases e), k3, fun q e => (by cases e), fun _ => ⟨hc k1, rfl⟩⟩
      · rename_i et
        split
        · exact hI
        · rename_i q eq
          rcases hl with ⟨k1, k2, k3, k4, k5, k6⟩ | ⟨k1, -⟩ | ⟨k1, -⟩ | ⟨k1, k2, ⟨t2, k3, k4⟩, k5, k6⟩
          · have hq : q < z_N S 1 ∧ z_F S 20 l.2.1 < 0 := by
              rcases k5 with ⟨t2, z1, z2, z3⟩ | ⟨q2, z1, z2, z3, z4⟩
              · rw [et] at z2; cases z2
              · rw [eq] at z3; cases z3; exact ⟨z1, z4⟩
            have f1 := hf (by omega)
            split
            · exact I_wait hI (fun p e => by cases e; exact ⟨f1, k4, hq.2, k3⟩) hq.1
            · rename_i hs
              exact I_go hI f1 k4 hq.2 ((hI.2.2.2.2.2.2.2.2.2.2.2 q hq.1).2 hs) (hI.1.2.2.1 q hq.1).2.1.2
          · omega
          · omega
          · rw [et] at k4; cases k4
