theorem zFree_new {S : zS} {h k n g a : Int32} {p : Nat} (hf : zFree S p) : zFree (z_new S h k n g a) p := ⟨hf.1, hf.2.1, hf.2.2⟩
theorem zHf_new {S : zS} {h k n g a : Int32} {hand : Option Nat} (hf : zHf S hand) : zHf (z_new S h k n g a) hand := by
  intro p e
  obtain ⟨f1, f2, f3, f4⟩ := hf p e
  refine ⟨zFree_new f1, ?_, ?_, ?_⟩
  · rw [zF_new]; repeat rw [if_neg (by omega)]
    exact f2
  · rw [zF_new]; repeat rw [if_neg (by omega)]
    exact f3
  · rw [zF_new]; repeat rw [if_neg (by omega)]
    exact f4
theorem i_le2 {n : Int32} (h : ¬ (n < 0 ∨ 2 < n)) : ∃ k : Nat, k ≤ 2 ∧ n = nI k := by
  have h1 : ¬ n < 0 := fun z => h (Or.inl z)
  have h2 : ¬ 2 < n := fun z => h (Or.inr z)
  rw [Int32.lt_iff_toInt_lt] at h1 h2
  have e0 : (0 : Int32).toInt = 0 := rfl
  have e2 : (2 : Int32).toInt = 2 := rfl
  rw [e0] at h1; rw [e2] at h2
  refine ⟨n.toInt.toNat, by omega, ?_⟩
  apply Int32.toInt_inj.mp
  rw [nI_toInt (by omega)]
  omega
theorem I_maker1 {S : zS} {hand : Option Nat} {t : Nat} {act n : Int32} (hI : zI S) (hf : zHf S hand) (ht : t < z_N S 0) : zI (z_maker1 S hand t act n) := by
  unfold z_maker1
  split
  · exact I_answer hI hf ht zv1
  · split
    · exact I_answer hI hf ht (zv2 (S := S) ht)
    · split
      · exact I_answer hI hf ht zv3
      · split
        · exact I_answer hI hf ht zv3
        · rename_i hn h40
          have h40' : ¬ z_N S 0 = 40 := h40
          have b := hI.1.1
          obtain ⟨k, hk, ek⟩ := i_le2 (n := n) (fun z => hn (Or.inr z))
          obtain ⟨hs1, hs2⟩ := (hI.1.2.1 t ht).1
          have h3 : zI (zs_F S 3 t (z_F S 3 t + 1)) := I_3 hI
          have h4 := I_new (h := z_hs S t) (k := k) (n := 0) (a := 0) (g := none) h3 (by show z_N S 0 < 40; omega) hs2 (by omega) (fun z => by omega) (fun _ => rfl)
          rw [← hs1, ← ek] at h4
          refine I_answer h4 (zHf_new hf) (show t < z_N S 0 + 1 by omega) (zv2 (show z_N S 0 < z_N S 0 + 1 by omega))
theorem I_maker {S : zS} {hand : Option Nat} {t : Nat} {act n : Int32} (hI : zI S) (hf : zHf S hand) (ht : t < z_N S 0) : zI (z_maker S hand t act n) := by
  have key : ∀ r, zI (z_maker1 (zs_r S r) hand t act n) := fun r => I_maker1 (I_r hI) hf ht
  exact key _
theorem I_guard1 {S : zS} {hand : Option Nat} {t : Nat} {act n : Int32} (hI : zI S) (hf : zHf S hand) (ht : t < z_N S 0) (hk : z_F S 2 t = 3 ∨ z_F S 2 t = 4) (hn : hand = none → z_c2 S + 1 ≤ z_ps S) : zI (z_guard1 S hand t act n) := by
  have b := hI.1.1
  obtain ⟨⟨hs1, hs2⟩, -, hg, -⟩ := hI.1.2.1 t ht
  obtain ⟨g, hg1, hg2⟩ := hg hk
  unfold z_guard1
  have eg : (z_F S 4 t).toNatClampNeg = g := by
    show (z_F S 4 t).toNatClampNeg = g
    rw [hg2, cl40 (by omega)]
  split
  · exact I_answer hI hf ht zv3
  · split
    · exact I_answer hI hf ht zv3
    · rw [eg]
      cases hand with
      | none => exact I_sw hI hg1 hs2 (hn rfl)
      | some p =>
        obtain ⟨f1, f2, f3, f4⟩ := hf p rfl
        exact I_sendT hI f1 f2 hs2 hg1
theorem I_guard {S : zS} {hand : Option Nat} {t : Nat} {act n : Int32} (hI : zI S) (hf : zHf S hand) (ht : t < z_N S 0) (hk : z_F S 2 t = 3 ∨ z_F S 2 t = 4) (hn : hand = none → z_c2 S + 1 ≤ z_ps S) : zI (z_guard S hand t act n) := by
  have key : ∀ r, zI (z_guard1 (zs_r S r) hand t act n) := fun r => I_guard1 (I_r hI) hf ht hk hn
  exact key _
theorem I_switch1 {S : zS} {hand : Option Nat} {t : Nat} {act n : Int32} (hI : zI S) (hf : zHf S hand) (ht : t < z_N S 0) (hk : z_F S 2 t = 3 ∨ z_F S 2 t = 4) (hn : hand = none → z_c2 S + 1 ≤ z_ps S) : zI (z_switch1 S hand t act n) := by
  unfold z_switch1
  split
  · exact I_answer hI hf ht zv3
  · exact I_guard hI hf ht hk hn
theorem I_switch {S : zS} {hand : Option Nat} {t : Nat} {act n : Int32} (hI : zI S) (hf : zHf S hand) (ht : t < z_N S 0) (hk : z_F S 2 t = 3 ∨ z_F S 2 t = 4) (hn : hand = none → z_c2 S + 1 ≤ z_ps S) : zI (z_switch S hand t act n) := by
  have key : ∀ r, zI (z_switch1 (zs_r S r) hand t act n) := fun r => I_switch1 (I_r hI) hf ht hk hn
  exact key _
-- who is held, who waits: one more
theorem notin_H {S : zS} {p : Nat} (hI : zI S) (h : ¬ z_F S 16 p = 1) (t : Nat) : p ∉ z_H S t := fun z => h (hI.2.2.2.2.1 t p z).2.2.1
theorem notin_Q {S : zS} {p : Nat} (hI : zI S) (h : ¬ z_F S 16 p = 2) (t : Nat) : p ∉ z_Q S t := fun z => h (hI.2.2.2.2.2.2.1 t p z).2.2.1
theorem I_kp {S S2 : zS} {p t : Nat} {how : Int32} (hI : zI S) (hf : zHf S (some p)) (hh : how = 1 ∨ how = 2)
    (hF : ∀ k j, k ≠ 8 → z_F S2 k j = if k = 16 ∧ j = p then how else z_F S k j) (hN : z_N S2 = z_N S) (hW : z_W S2 = z_W S) (hD : z_D S2 = z_D S)
    (hH : ∀ t2, z_H S2 t2 = if how = 1 ∧ t2 = t then z_H S t ++ [p] else z_H S t2) (hQ : ∀ t2, z_Q S2 t2 = if how = 2 ∧ t2 = t then z_Q S t ++ [p] else z_Q S t2)
    (h1 : how = 1 → t < z_N S 0 ∧ (z_F S 2 t = 5 ∨ z_F S 2 t = 6)) (h2 : how = 2 → t < z_N S 1) : zI S2 := by
  obtain ⟨f1, f2, f3, f4⟩ := hf p rfl
  have nH := notin_H hI (p := p) (by rw [f4]; decide)
  have nQ := notin_Q hI (p := p) (by rw [f4]; decide)
  obtain ⟨hv, ha, hb, hc, hd, he, hg, hh2, hi, hj, hk, hm⟩ := hI
  have hFk : ∀ k, k ≠ 8 → k ≠ 16 → z_F S2 k = z_F S k := fun k h8 h16 => by funext j; rw [hF k j h8, if_neg (fun z => h16 z.1)]
  have h16 : ∀ q, q ≠ p → z_F S2 16 q = z_F S 16 q := fun q hq => by rw [hF 16 q (by omega), if_neg (fun z => hq z.2)]
  have h16p : z_F S2 16 p = how := by rw [hF 16 p (by omega), if_pos ⟨rfl, rfl⟩]
  have hwp : ∀ w, z_wp S2 w = z_wp S w := fun w => by unfold z_wp; rw [hW]
  have hzv : ∀ st v, zval S st v → zval S2 st v := fun st v h => zval_congr h hN
  have hhs : ∀ t, z_hs S2 t = z_hs S t := fun t => by unfold z_hs; rw [hFk 1 (by omega) (by omega)]
  have hak : ∀ t, z_ak S2 t = z_ak S t := fun t => by unfold z_ak; rw [hFk 9 (by omega) (by omega)]
  have hhm : ∀ t, z_hm S2 t = z_hm S t := fun t => by unfold z_hm; rw [hFk 10 (by omega) (by omega)]
  refine ⟨?_, fun w l hl => ?_, ?_, ⟨fun d hd1 => ?_, ?_⟩, fun t2 q hq => ?_, ⟨fun t2 => ?_, fun t2 t3 q a b => ?_⟩, fun t2 q hq => ?_, ⟨fun t2 => ?_, fun t2 t3 q a b => ?_⟩, ?_, ?_, fun q hq => ?_, fun q hq => ?_⟩
  · unfold zV
    simp only [hN, hFk 1 (by omega) (by omega), hFk 2 (by omega) (by omega), hFk 4 (by omega) (by omega), hFk 9 (by omega) (by omega), hFk 10 (by omega) (by omega), hFk 17 (by omega) (by omega), hFk 19 (by omega) (by omega), hFk 23 (by omega) (by omega), hFk 24 (by omega) (by omega), hFk 25 (by omega) (by omega), hFk 36 (by omega) (by omega), hhs, hak, hhm]
    exact hv
  · rw [hW] at hl
    refine ⟨(ha w l hl).1, ?_⟩
    have hne : ¬ l.1 = 2 → l.2.1 ≠ p := fun h2 z => f1.2.1 w (mem_wp.mpr ⟨l, hl, h2, z⟩)
    unfold zLok
    rw [hFk 11 (by omega) (by omega), hFk 13 (by omega) (by omega), hFk 20 (by omega) (by omega), hhm, hak, hN]
    rcases (ha w l hl).2 with ⟨k1, k2, k3, k4⟩ | ⟨k1, k2, k3, k4, k5, k6, k7, k8⟩ | ⟨k1, k2, k3, k4, k5, k6, k7, k8, k9, k10⟩ | h0
    · exact Or.inl ⟨k1, k2, by rw [h16 _ (hne (by omega))]; exact k3, k4⟩
    · exact Or.inr (Or.inl ⟨k1, k2, by rw [h16 _ (hne (by omega))]; exact k3, k4, k5, k6, k7, hzv _ _ k8⟩)
    · exact Or.inr (Or.inr (Or.inl ⟨k1, k2, by rw [h16 _ (hne (by omega))]; exact k3, k4, k5, k6, k7, k8, k9, hzv _ _ k10⟩))
    · exact Or.inr (Or.inr (Or.inr h0))
  · simp only [hwp]; exact hb
  · rw [hD] at hd1
    have hne : d.1 ≠ p := fun z => f1.2.2 (by rw [← z]; exact List.mem_map_of_mem hd1)
    obtain ⟨a1, a2, a3, a4, a5⟩ := hc.1 d hd1
    refine ⟨by rw [hN]; exact a1, by rw [h16 _ hne]; exact a2, by rw [hFk 11 (by omega) (by omega)]; exact a3, hzv _ _ a4, fun w => by rw [hwp]; exact a5 w⟩
  · rw [hD]; exact hc.2
  · rw [hN, hFk 11 (by omega) (by omega), hFk 2 (by omega) (by omega)]
    rw [hH] at hq
    by_cases e : how = 1 ∧ t2 = t
    · rw [if_pos e] at hq
      rcases List.mem_append.mp hq with z | z
      · obtain ⟨a1, a2, a3, a4, a5⟩ := hd t q z
        have : q ≠ p := fun y => nH t (by rw [← y]; exact z)
        rw [h16 q this, e.2]
        exact ⟨a1, a2, a3, a4, a5⟩
      · rw [List.mem_singleton] at z
        rw [z, h16p, e.2]
        exact ⟨(h1 e.1).1, f1.1, e.1, f2, (h1 e.1).2⟩
    · rw [if_neg e] at hq
      obtain ⟨a1, a2, a3, a4, a5⟩ := hd t2 q hq
      have : q ≠ p := fun y => nH t2 (by rw [← y]; exact hq)
      rw [h16 q this]
      exact ⟨a1, a2, a3, a4, a5⟩
  · rw [hH]
    split
    · rw [List.nodup_append]
      refine ⟨he.1 t, by simp, fun a h3 b h4 z => ?_⟩
      rw [List.mem_singleton] at h4
      subst h4; subst z
      exact nH t h3
    · exact he.1 t2
  · rw [hH] at a b
    have key : ∀ u, q ∈ (if how = 1 ∧ u = t then z_H S t ++ [p] else z_H S u) → q ∈ z_H S u ∨ (u = t ∧ q = p) := by
      intro u hu
      by_cases e : how = 1 ∧ u = t
      · rw [if_pos e] at hu
        rcases List.mem_append.mp hu with z | z
        · rw [e.2]; exact Or.inl z
        · exact Or.inr ⟨e.2, List.mem_singleton.mp z⟩
      · rw [if_neg e] at hu
        exact Or.inl hu
    rcases key t2 a with z | z <;> rcases key t3 b with y | y
    · exact he.2 t2 t3 q z y
    · rw [y.2] at z; exact absurd z (nH t2)
    · rw [z.2] at y; exact absurd y (nH t3)
    · omega
  · rw [hN, hFk 11 (by omega) (by omega)]
    rw [hQ] at hq
    by_cases e : how = 2 ∧ t2 = t
    · rw [if_pos e] at hq
      rcases List.mem_append.mp hq with z | z
      · obtain ⟨a1, a2, a3, a4⟩ := hg t q z
        have : q ≠ p := fun y => nQ t (by rw [← y]; exact z)
        rw [h16 q this, e.2]
        exact ⟨a1, a2, a3, a4⟩
      · rw [List.mem_singleton] at z
        rw [z, h16p, e.2]
        exact ⟨h2 e.1, f1.1, e.1, f2⟩
    · rw [if_neg e] at hq
      obtain ⟨a1, a2, a3, a4⟩ := hg t2 q hq
      have : q ≠ p := fun y => nQ t2 (by rw [← y]; exact hq)
      rw [h16 q this]
      exact ⟨a1, a2, a3, a4⟩
  · rw [hQ]
    split
    · rw [List.nodup_append]
      refine ⟨hh2.1 t, by simp, fun a h3 b h4 z => ?_⟩
      rw [List.mem_singleton] at h4
      subst h4; subst z
      exact nQ t h3
    · exact hh2.1 t2
  · rw [hQ] at a b
    have key : ∀ u, q ∈ (if how = 2 ∧ u = t then z_Q S t ++ [p] else z_Q S u) → q ∈ z_Q S u ∨ (u = t ∧ q = p) := by
      intro u hu
      by_cases e : how = 2 ∧ u = t
      · rw [if_pos e] at hu
        rcases List.mem_append.mp hu with z | z
        · rw [e.2]; exact Or.inl z
        · exact Or.inr ⟨e.2, List.mem_singleton.mp z⟩
      · rw [if_neg e] at hu
        exact Or.inl hu
    rcases key t2 a with z | z <;> rcases key t3 b with y | y
    · exact hh2.2 t2 t3 q z y
    · rw [y.2] at z; exact absurd z (nQ t2)
    · rw [z.2] at y; exact absurd y (nQ t3)
    · omega
  · simp only [hN, hFk 23 (by omega) (by omega), hFk 24 (by omega) (by omega), hFk 26 (by omega) (by omega), hFk 11 (by omega) (by omega), hFk 13 (by omega) (by omega), hhm]
    exact hi
  · have e1 : z_ps S2 = z_ps S := ps_congr (by rw [hN]) (fun w => by rw [hFk 26 (by omega) (by omega)])
    have e2 : z_c2 S2 = z_c2 S := by unfold z_c2; rw [hW]
    rw [e1, e2]; exact hj
  · rw [hFk 20 (by omega) (by omega), hN]
    rw [hN] at hq
    by_cases e : q = p
    · rw [e]; exact Or.inl f3
    · rw [h16 q e]; exact hk q hq
  · rw [hN] at hq
    rw [hFk 11 (by omega) (by omega), hFk 12 (by omega) (by omega), hFk 13 (by omega) (by omega)]
    exact ⟨(hm q hq).1, fun z => hzv _ _ ((hm q hq).2 z)⟩
theorem I_hold {S : zS} {p t : Nat} (hI : zI S) (hf : zHf S (some p)) (ht : t < z_N S 0) (hk : z_F S 2 t = 5 ∨ z_F S 2 t = 6) : zI (z_hold S p t) := by
  refine I_kp (p := p) (t := t) (how := 1) hI hf (Or.inl rfl) (fun k j h8 => ?_) rfl rfl rfl (fun t2 => ?_) (fun t2 => ?_) (fun _ => ⟨ht, hk⟩) (fun z => absurd z (by decide))
  · show xu_2 (xu_2 (z_F S) 16 p 1) 8 t (z_F S 8 t + 1) k j = _
    unfold xu_2
    rw [if_neg (fun z => h8 z.1)]
  · show va_up (z_H S) t (z_H S t ++ [p]) t2 = _
    unfold va_up; simp
  · rw [if_neg (fun z => absurd z.1 (by decide))]; rfl
theorem I_wait {S : zS} {p q : Nat} (hI : zI S) (hf : zHf S (some p)) (hq : q < z_N S 1) : zI (z_wait S p q) := by
  refine I_kp (p := p) (t := q) (how := 2) hI hf (Or.inr rfl) (fun k j h8 => ?_) rfl rfl rfl (fun t2 => ?_) (fun t2 => ?_) (fun z => absurd z (by decide)) (fun _ => hq)
  · show xu_2 (z_F S) 16 p 2 k j = _
    rfl
  · rw [if_neg (fun z => absurd z.1 (by decide))]; rfl
  · show va_up (z_Q S) q (z_Q S q ++ [p]) t2 = _
    unfold va_up; simp
