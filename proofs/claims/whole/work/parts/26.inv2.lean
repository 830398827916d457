theorem sum_upd (f g : Nat → Nat) (d w : Nat) : ∀ n, w < n → (∀ v, v ≠ w → g v = f v) → g w = f w + d → ((List.range n).map g).sum = ((List.range n).map f).sum + d := by
  intro n
  induction n with
  | zero => intro h; omega
  | succ n ih =>
    intro h h1 h2
    rw [List.range_succ, List.map_append, List.map_append, List.sum_append, List.sum_append]
    by_cases e : w = n
    · have : (List.range n).map g = (List.range n).map f := List.map_congr_left (fun v hv => h1 v (by have := List.mem_range.mp hv; omega))
      rw [this]
      subst e
      simp [h2]; omega
    · rw [ih (by omega) h1 h2]
      have : g n = f n := h1 n (fun z => e z.symm)
      simp [this]; omega
theorem wW_post {S : zS} {w v : Nat} {l : zL} : z_W (z_post S w l) v = if v = w then z_W S w ++ [l] else z_W S v := by
  show va_up (z_W S) w (z_W S w ++ [l]) v = _
  unfold va_up
  rfl
theorem wp_post {S : zS} {w v : Nat} {l : zL} : z_wp (z_post S w l) v = z_wp S v ++ (if v = w ∧ ¬ l.1 = 2 then [l.2.1] else []) := by
  unfold z_wp
  rw [wW_post]
  by_cases e : v = w
  · subst e
    rw [if_pos rfl, List.filter_append, List.map_append]
    by_cases z : l.1 = 2
    · simp [z]
    · simp [z]
  · rw [if_neg e]; simp [e]
theorem c2_post {S : zS} {w : Nat} {l : zL} (hw : w < 16) : z_c2 (z_post S w l) = z_c2 S + (if l.1 = 2 then 1 else 0) := by
  unfold z_c2
  refine sum_upd _ _ _ w 16 hw (fun v hv => ?_) ?_
  · rw [wW_post, if_neg hv]
  · rw [wW_post, if_pos rfl, List.filter_append, List.length_append]
    by_cases z : l.1 = 2
    · simp [z]
    · simp [z]
theorem ps_congr {S S2 : zS} (hN : z_N S2 2 = z_N S 2) (hF : ∀ w, z_F S2 26 w = z_F S 26 w) : z_ps S2 = z_ps S := by
  unfold z_ps
  rw [hN]
  simp only [hF]
theorem ps_post {S : zS} {w : Nat} {l : zL} : z_ps (z_post S w l) = z_ps S := ps_congr rfl (fun _ => rfl)
theorem I_post {S : zS} {w : Nat} {l : zL} (h : zI S) (hw : w < 16) (hl : zLok S w l) (hf : ¬ l.1 = 2 → zFree S l.2.1) (h2 : l.1 = 2 → z_c2 S + 1 ≤ z_ps S) : zI (z_post S w l) := by
  obtain ⟨hv, ha, hb, hc, hd, he, hg, hh, hi, hj, hk, hm⟩ := h
  have notin : ∀ p, p ∉ z_wp S w → True := fun _ _ => trivial
  refine ⟨hv, ?_, ⟨fun v => ?_, fun v v2 p h1 h3 => ?_⟩, ⟨fun d hd1 => ?_, hc.2⟩, hd, he, hg, hh, hi, ?_, hk, hm⟩
  · intro v l2 hl2
    rw [wW_post] at hl2
    by_cases e : v = w
    · rw [if_pos e] at hl2
      rcases List.mem_append.mp hl2 with z | z
      · rw [e]; exact ha w l2 z
      · rw [List.mem_singleton] at z
        rw [z, e]
        exact ⟨hw, hl⟩
    · rw [if_neg e] at hl2
      exact ha v l2 hl2
  · rw [wp_post]
    by_cases e : v = w ∧ ¬ l.1 = 2
    · rw [if_pos e, List.nodup_append]
      refine ⟨hb.1 v, by simp, fun a h3 b h4 z => ?_⟩
      rw [List.mem_singleton] at h4
      subst h4; subst z
      exact (hf e.2).2.1 v h3
    · rw [if_neg e, List.append_nil]; exact hb.1 v
  · rw [wp_post] at h1 h3
    have key : ∀ u, p ∈ z_wp S u ++ (if u = w ∧ ¬ l.1 = 2 then [l.2.1] else []) → p ∈ z_wp S u ∨ (u = w ∧ ¬ l.1 = 2 ∧ p = l.2.1) := by
      intro u hu
      rcases List.mem_append.mp hu with z | z
      · exact Or.inl z
      · by_cases e : u = w ∧ ¬ l.1 = 2
        · rw [if_pos e, List.mem_singleton] at z
          exact Or.inr ⟨e.1, e.2, z⟩
        · rw [if_neg e] at z
          exact absurd z List.not_mem_nil
    rcases key v h1 with z1 | ⟨z1, z2, z3⟩ <;> rcases key v2 h3 with y1 | ⟨y1, y2, y3⟩
    · exact hb.2 v v2 p z1 y1
    · subst y3; exact absurd z1 ((hf y2).2.1 v)
    · subst z3; exact absurd y1 ((hf z2).2.1 v2)
    · omega
  · obtain ⟨a1, a2, a3, a4, a5⟩ := hc.1 d hd1
    refine ⟨a1, a2, a3, a4, fun v hv1 => ?_⟩
    rw [wp_post] at hv1
    rcases List.mem_append.mp hv1 with z | z
    · exact a5 v z
    · by_cases e : v = w ∧ ¬ l.1 = 2
      · rw [if_pos e, List.mem_singleton] at z
        exact (hf e.2).2.2 (by rw [← z]; exact List.mem_map_of_mem hd1)
      · rw [if_neg e] at z
        exact absurd z List.not_mem_nil
  · rw [c2_post hw, ps_post]
    by_cases e : l.1 = 2
    · rw [if_pos e]; exact h2 e
    · rw [if_neg e]; omega
theorem wW_set {S : zS} {w v : Nat} {l : List zL} : z_W (zs_W S w l) v = if v = w then l else z_W S v := by
  show va_up (z_W S) w l v = _
  unfold va_up
  rfl
theorem wp_tail {S : zS} {w v : Nat} {l : zL} {ls : List zL} (e : z_W S w = l :: ls) : z_wp S v = (if v = w ∧ ¬ l.1 = 2 then [l.2.1] else []) ++ z_wp (zs_W S w ls) v := by
  unfold z_wp
  rw [wW_set]
  by_cases z : v = w
  · subst z
    rw [if_pos rfl, e]
    by_cases y : l.1 = 2
    · simp [y]
    · simp [y]
  · rw [if_neg z]; simp [z]
theorem c2_tail {S : zS} {w : Nat} {l : zL} {ls : List zL} (hw : w < 16) (e : z_W S w = l :: ls) : z_c2 S = z_c2 (zs_W S w ls) + (if l.1 = 2 then 1 else 0) := by
  unfold z_c2
  refine sum_upd _ _ _ w 16 hw (fun v hv => ?_) ?_
  · rw [wW_set, if_neg hv]
  · rw [wW_set, if_pos rfl, e]
    by_cases z : l.1 = 2
    · simp [z]
    · simp [z]
theorem I_tail {S : zS} {w : Nat} {l : zL} {ls : List zL} (h : zI S) (e : z_W S w = l :: ls) : zI (zs_W S w ls) ∧ (¬ l.1 = 2 → zFree (zs_W S w ls) l.2.1) ∧ (l.1 = 2 → z_c2 (zs_W S w ls) + 1 ≤ z_ps S) ∧ w < 16 ∧ zLok S w l := by
  obtain ⟨hv, ha, hb, hc, hd, he, hg, hh, hi, hj, hk, hm⟩ := h
  have hl : w < 16 ∧ zLok S w l := ha w l (by rw [e]; exact List.mem_cons_self)
  have sub : ∀ v p, p ∈ z_wp (zs_W S w ls) v → p ∈ z_wp S v := fun v p hp => by rw [wp_tail e]; exact List.mem_append_right _ hp
  have c2 := c2_tail hl.1 e
  refine ⟨⟨hv, ?_, ⟨fun v => ?_, fun v v2 p h1 h3 => hb.2 v v2 p (sub v p h1) (sub v2 p h3)⟩, ⟨fun d hd1 => ?_, hc.2⟩, hd, he, hg, hh, hi, ?_, hk, hm⟩, fun h2 => ⟨zLok_lt hl.2 h2, fun v hp => ?_, fun hp => ?_⟩, fun h2 => ?_, hl⟩
  · intro v l2 hl2
    rw [wW_set] at hl2
    by_cases z : v = w
    · rw [if_pos z] at hl2
      rw [z]
      exact ha w l2 (by rw [e]; exact List.mem_cons_of_mem _ hl2)
    · rw [if_neg z] at hl2
      exact ha v l2 hl2
  · have := hb.1 v
    rw [wp_tail e, List.nodup_append] at this
    exact this.2.1
  · obtain ⟨a1, a2, a3, a4, a5⟩ := hc.1 d hd1
    exact ⟨a1, a2, a3, a4, fun v hp => a5 v (sub v _ hp)⟩
  · rw [show z_ps (zs_W S w ls) = z_ps S from ps_congr rfl (fun _ => rfl)]
    omega
  · have h4 : l.2.1 ∈ z_wp S w := by rw [wp_tail e, if_pos ⟨rfl, h2⟩]; simp
    have h5 := hb.2 v w _ (sub v _ hp) h4
    subst h5
    have := hb.1 v
    rw [wp_tail e, if_pos ⟨rfl, h2⟩, List.nodup_append] at this
    exact this.2.2 _ (by simp) _ hp rfl
  · rw [List.mem_map] at hp
    obtain ⟨d, hd1, hd2⟩ := hp
    have h4 : l.2.1 ∈ z_wp S w := by rw [wp_tail e, if_pos ⟨rfl, h2⟩]; simp
    exact (hc.1 d hd1).2.2.2.2 w (by rw [hd2]; exact h4)
  · rw [if_pos h2] at c2
    omega
theorem zF_w {S : zS} {p k j : Nat} {v : Int32} : z_F (z_w S p v) k j = if k = 16 ∧ j = p then v else z_F S k j := rfl
theorem zF_wn {S : zS} {p k j : Nat} {v : Int32} (h : ¬ (k = 16 ∧ j = p)) : z_F (z_w S p v) k j = z_F S k j := by rw [zF_w, if_neg h]
theorem I_w {S : zS} {p : Nat} {v : Int32} (h : zI S) (hf : zFree S p) (hv0 : v = 0 ∨ v = 3) (hm0 : v = 0 → z_F S 20 p < 0) : zI (z_w S p v) ∧ zFree (z_w S p v) p := by
  obtain ⟨hv, ha, hb, hc, hd, he, hg, hh, hi, hj, hk, hm⟩ := h
  have f16 : ∀ q, q ≠ p → z_F (z_w S p v) 16 q = z_F S 16 q := fun q hq => zF_wn (fun z => hq z.2)
  refine ⟨⟨hv, ?_, hb, ⟨fun d hd1 => ?_, hc.2⟩, ?_, ⟨fun t => (he.1 t).filter _, fun t t2 q h1 h2 => he.2 t t2 q (List.mem_filter.mp h1).1 (List.mem_filter.mp h2).1⟩, ?_, ⟨fun t => (hh.1 t).filter _, fun t t2 q h1 h2 => hh.2 t t2 q (List.mem_filter.mp h1).1 (List.mem_filter.mp h2).1⟩, hi, hj, fun q hq => ?_, hm⟩, hf⟩
  · intro w l hl
    refine ⟨(ha w l hl).1, ?_⟩
    have hne : ¬ l.1 = 2 → l.2.1 ≠ p := fun h2 z => hf.2.1 w (mem_wp.mpr ⟨l, hl, h2, z⟩)
    have h0 := (ha w l hl).2
    rcases h0 with ⟨k1, h0⟩ | ⟨k1, h0⟩ | ⟨k1, h0⟩ | h0
    · refine Or.inl ⟨k1, h0.1, ?_, h0.2.2⟩
      rw [f16 _ (hne (by omega))]; exact h0.2.1
    · refine Or.inr (Or.inl ⟨k1, h0.1, ?_, h0.2.2⟩)
      rw [f16 _ (hne (by omega))]; exact h0.2.1
    · refine Or.inr (Or.inr (Or.inl ⟨k1, h0.1, ?_, h0.2.2⟩))
      rw [f16 _ (hne (by omega))]; exact h0.2.1
    · exact Or.inr (Or.inr (Or.inr h0))
  · have hne : d.1 ≠ p := fun z => hf.2.2 (by rw [← z]; exact List.mem_map_of_mem hd1)
    obtain ⟨a1, a2, a3⟩ := hc.1 d hd1
    exact ⟨a1, by rw [f16 _ hne]; exact a2, a3⟩
  · intro t q hq
    have h1 := List.mem_filter.mp hq
    have hne : q ≠ p := by simpa using h1.2
    obtain ⟨a1, a2, a3, a4⟩ := hd t q h1.1
    exact ⟨a1, a2, by rw [f16 _ hne]; exact a3, a4⟩
  · intro t q hq
    have h1 := List.mem_filter.mp hq
    have hne : q ≠ p := by simpa using h1.2
    obtain ⟨a1, a2, a3, a4⟩ := hg t q h1.1
    exact ⟨a1, a2, by rw [f16 _ hne]; exact a3, a4⟩
  · by_cases e : q = p
    · subst e
      rcases hv0 with rfl | rfl
      · exact Or.inl (hm0 rfl)
      · rcases hk q hq with z | z
        · exact Or.inl z
        · exact Or.inr ⟨by rw [zF_w, if_pos ⟨rfl, rfl⟩], z.2⟩
    · rcases hk q hq with z | z
      · exact Or.inl z
      · exact Or.inr ⟨by rw [f16 _ e]; exact z.1, z.2⟩
theorem I_due {S : zS} {p : Nat} {st v : Int32} (h : zI S) (hf : zFree S p) (h16 : z_F S 16 p = 0) (h11 : z_F S 11 p = 0) (hz : zval S st v) : zI (z_due S p st v) := by
  obtain ⟨hv, ha, hb, hc, hd, he, hg, hh, hi, hj, hk, hm⟩ := h
  refine ⟨hv, ha, hb, ⟨?_, ?_⟩, hd, he, hg, hh, hi, hj, hk, hm⟩
  · intro d hd1
    rcases List.mem_append.mp hd1 with z | z
    · exact hc.1 d z
    · rw [List.mem_singleton] at z
      subst z
      exact ⟨hf.1, h16, h11, hz, hf.2.1⟩
  · show ((z_D S ++ [(p, st, v)]).map Prod.fst).Nodup
    rw [List.map_append, List.nodup_append]
    refine ⟨hc.2, by simp, fun a h1 b h2 z => ?_⟩
    have : b = p := by simpa using h2
    subst this; subst z
    exact hf.2.2 h1
-- what nothing here looks at
theorem I_3 {S : zS} {i : Nat} {v : Int32} (h : zI S) : zI (zs_F S 3 i v) := h
theorem I_15 {S : zS} {i : Nat} {v : Int32} (h : zI S) : zI (zs_F S 15 i v) := h
theorem I_14 {S : zS} {i : Nat} {v : Int32} (h : zI S) : zI (zs_F S 14 i v) := h
theorem I_8 {S : zS} {i : Nat} {v : Int32} (h : zI S) : zI (zs_F S 8 i v) := h
theorem I_u {S : zS} {v : Int32} (h : zI S) : zI (zs_u S v) := h
theorem I_r {S : zS} {v : Int64} (h : zI S) : zI (zs_r S v) := h
