/-- nothing but WHENS that were posted, and their letters, has come -/
def zFw (S S2 : zS) : Prop := z_N S2 = z_N S ∧ (∀ k, k ≠ 26 → z_F S2 k = z_F S k) ∧ z_H S2 = z_H S ∧ z_Q S2 = z_Q S ∧ z_D S2 = z_D S ∧ ∀ w, z_wp S2 w = z_wp S w
theorem zFw.rf {S : zS} : zFw S S := ⟨rfl, fun _ _ => rfl, rfl, rfl, rfl, fun _ => rfl⟩
theorem zFw.tr {S S2 S3 : zS} (h : zFw S S2) (h2 : zFw S2 S3) : zFw S S3 := ⟨h2.1.trans h.1, fun k hk => (h2.2.1 k hk).trans (h.2.1 k hk), h2.2.2.1.trans h.2.2.1, h2.2.2.2.1.trans h.2.2.2.1, h2.2.2.2.2.1.trans h.2.2.2.2.1, fun w => (h2.2.2.2.2.2 w).trans (h.2.2.2.2.2 w)⟩
theorem zFw.free {S S2 : zS} {p : Nat} (h : zFw S S2) (hf : zFree S p) : zFree S2 p := by
  obtain ⟨h1, h2, h3, h4, h5, h6⟩ := h
  exact ⟨by rw [h1]; exact hf.1, fun w => by rw [h6]; exact hf.2.1 w, by rw [h5]; exact hf.2.2⟩
theorem zFw_sw {S : zS} {h t : Nat} {n : Int32} : zFw S (z_sw S h t n) := by
  unfold z_sw
  split
  · exact ⟨rfl, fun _ _ => rfl, rfl, rfl, rfl, fun w => by rw [wp_post, if_neg (fun z => z.2 rfl), List.append_nil]⟩
  · exact zFw.rf
theorem zFw_pw {S : zS} {w : Nat} {st v : Int32} : zFw S (z_pw S w st v) := by
  unfold z_pw
  refine zFw.tr (S2 := zs_F S 26 w 1) ⟨rfl, fun k hk => ?_, rfl, rfl, rfl, fun _ => rfl⟩ zFw_sw
  funext j
  exact zF_ne hk
theorem fold_ind {α β : Type} {P : β → Prop} {f : β → α → β} : ∀ (l : List α) (b : β), P b → (∀ b a, a ∈ l → P b → P (f b a)) → P (l.foldl f b) := by
  intro l
  induction l with
  | nil => intro b hb _; exact hb
  | cons a l ih => intro b hb h; exact ih (f b a) (h b a List.mem_cons_self hb) (fun b2 a2 ha2 => h b2 a2 (List.mem_cons_of_mem _ ha2))
theorem zFw_pws {S : zS} {p h : Nat} {st v : Int32} : zFw S (z_pws S p h st v) := by
  unfold z_pws
  refine fold_ind (P := fun S2 => zFw S S2) _ _ zFw.rf (fun S2 w _ h2 => ?_)
  split
  · exact h2.tr zFw_pw
  · exact h2
theorem I_sw {S : zS} {h t : Nat} {n : Int32} (hI : zI S) (ht : t < z_N S 0) (hh : h < 4) (h2 : z_c2 S + 1 ≤ z_ps S) : zI (z_sw S h t n) := by
  unfold z_sw
  split
  · refine I_post hI ?_ (Or.inr (Or.inr (Or.inr ⟨rfl, rfl, ⟨t, ht, rfl⟩, rfl, rfl⟩))) (fun z => absurd rfl z) (fun _ => h2)
    have := (hI.1.2.1 t ht).1.2
    omega
  · exact hI
theorem filt_upd (f g : Nat → Bool) (w : Nat) : ∀ n, w < n → (∀ v, v ≠ w → g v = f v) → f w = false → g w = true → ((List.range n).filter g).length = ((List.range n).filter f).length + 1 := by
  intro n
  induction n with
  | zero => intro h; omega
  | succ n ih =>
    intro h h1 h2 h3
    rw [List.range_succ, List.filter_append, List.filter_append, List.length_append, List.length_append]
    by_cases e : w = n
    · have : (List.range n).filter g = (List.range n).filter f := List.filter_congr (fun v hv => h1 v (by have := List.mem_range.mp hv; omega))
      rw [this]
      subst e
      simp [h2, h3]
    · rw [ih (by omega) h1 h2 h3]
      have h9 : g n = f n := h1 n (fun z => e z.symm)
      have h8 : [n].filter g = [n].filter f := List.filter_congr (fun v hv => by rw [List.mem_singleton] at hv; rw [hv]; exact h9)
      rw [h8]; omega
theorem I_26 {S : zS} {w p h : Nat} (hI : zI S) (hw : w < z_N S 2) (h0 : z_F S 26 w = 0) (hp : z_F S 23 w = nI p) (hp1 : p < z_N S 1) (hh : z_F S 24 w = nI h) (hh1 : h < 4) (hst : ¬ (if h = z_hm S p then z_F S 11 p = 0 else z_F S 13 p = 0)) : zI (zs_F S 26 w 1) ∧ z_ps (zs_F S 26 w 1) = z_ps S + 1 := by
  have hps : z_ps (zs_F S 26 w 1) = z_ps S + 1 := by
    unfold z_ps
    refine filt_upd _ _ w _ hw (fun v hv => ?_) ?_ ?_
    · rw [zF_eq, if_neg (fun z => hv z.2)]
    · rw [h0]; rfl
    · rw [zF_eq, if_pos ⟨rfl, rfl⟩]; rfl
  refine ⟨?_, hps⟩
  obtain ⟨hv, ha, hb, hc, hd, he, hg, hh2, hi, hj, hk, hm⟩ := hI
  have b1 := hv.1
  refine ⟨hv, ha, hb, hc, hd, he, hg, hh2, ?_, ?_, hk, hm⟩
  · intro w2 p2 h2 hw2 hp2 hp3 hh3 hh4 hst2
    by_cases e : w2 = w
    · subst e
      have hp4 : p2 < z_N S 1 := hp3
      have e1 : p2 = p := (nI_eq (by omega) (by omega)).mp (hp2.symm.trans hp)
      have e2 : h2 = h := (nI_eq (by omega) (by omega)).mp (hh3.symm.trans hh)
      rw [e1, e2] at hst2
      exact absurd hst2 hst
    · rw [zF_eq, if_neg (fun z => e z.2)]
      exact hi w2 p2 h2 hw2 hp2 hp3 hh3 hh4 hst2
  · rw [hps]
    show z_c2 S ≤ z_ps S + 1
    omega
theorem I_pw {S : zS} {w p h : Nat} {st v : Int32} (hI : zI S) (hw : w < z_N S 2) (h0 : z_F S 26 w = 0) (hp : z_F S 23 w = nI p) (hp1 : p < z_N S 1) (hh : z_F S 24 w = nI h) (hh1 : h < 4) (hst : ¬ (if h = z_hm S p then z_F S 11 p = 0 else z_F S 13 p = 0)) : zI (z_pw S w st v) := by
  obtain ⟨h1, h2⟩ := I_26 hI hw h0 hp hp1 hh hh1 hst
  obtain ⟨p2, hx, t, -, -, -, -, -, ht, e, -⟩ := hI.1.2.2.2.1 w hw
  unfold z_pw
  have b1 := hI.1.1
  have et : (z_F S 25 w).toNatClampNeg = t := by rw [e]; exact nI_clamp (by omega)
  have eh : (z_F S 24 w).toNatClampNeg = h := by rw [hh]; exact nI_clamp (by omega)
  rw [et, eh]
  refine I_sw h1 ht hh1 ?_
  rw [h2]
  have := hI.2.2.2.2.2.2.2.2.2.1
  have e3 : z_c2 (zs_F S 26 w 1) = z_c2 S := rfl
  omega
theorem I_pws {S : zS} {p h : Nat} {st v : Int32} (hI : zI S) (hp1 : p < z_N S 1) (hh1 : h < 4) (hst : ¬ (if h = z_hm S p then z_F S 11 p = 0 else z_F S 13 p = 0)) : zI (z_pws S p h st v) := by
  unfold z_pws
  refine (fold_ind (P := fun S2 => zI S2 ∧ zFw S S2) _ _ ⟨hI, zFw.rf⟩ (fun S2 w hw h2 => ?_)).1
  split
  · rename_i hc
    obtain ⟨n1, f1, -⟩ := h2.2
    refine ⟨I_pw (p := p) (h := h) h2.1 (by rw [n1]; exact List.mem_range.mp hw) hc.2.2 hc.1 (by rw [n1]; exact hp1) hc.2.1 hh1 ?_, h2.2.tr zFw_pw⟩
    have e1 : z_hm S2 p = z_hm S p := by unfold z_hm; rw [f1 10 (by decide)]
    rw [e1, f1 11 (by decide), f1 13 (by decide)]
    exact hst
  · exact h2
