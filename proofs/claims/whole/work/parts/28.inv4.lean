/-- what a step about p leaves as it was -/
def zFr (p : Nat) (S S2 : zS) : Prop := z_N S2 = z_N S ∧ (∀ k, k ≠ 3 → k ≠ 13 → k ≠ 14 → k ≠ 15 → k ≠ 16 → k ≠ 20 → k ≠ 26 → z_F S2 k = z_F S k) ∧ (∀ q, q ≠ p → z_F S2 13 q = z_F S 13 q ∧ z_F S2 16 q = z_F S 16 q ∧ z_F S2 20 q = z_F S 20 q) ∧ ∀ q, q ≠ p → zFree S q → zFree S2 q
theorem zFr.rf {p : Nat} {S : zS} : zFr p S S := ⟨rfl, fun _ _ _ _ _ _ _ _ => rfl, fun _ _ => ⟨rfl, rfl, rfl⟩, fun _ _ h => h⟩
theorem zFr.tr {p : Nat} {S S2 S3 : zS} (h : zFr p S S2) (h2 : zFr p S2 S3) : zFr p S S3 :=
  ⟨h2.1.trans h.1, fun k a b c d e f g => (h2.2.1 k a b c d e f g).trans (h.2.1 k a b c d e f g), fun q hq => ⟨(h2.2.2.1 q hq).1.trans (h.2.2.1 q hq).1, (h2.2.2.1 q hq).2.1.trans (h.2.2.1 q hq).2.1, (h2.2.2.1 q hq).2.2.trans (h.2.2.1 q hq).2.2⟩, fun q hq hf => h2.2.2.2 q hq (h.2.2.2 q hq hf)⟩
theorem zFw.fr {p : Nat} {S S2 : zS} (h : zFw S S2) : zFr p S S2 :=
  ⟨h.1, fun k _ _ _ _ _ _ g => h.2.1 k g, fun q _ => ⟨by rw [h.2.1 13 (by decide)], by rw [h.2.1 16 (by decide)], by rw [h.2.1 20 (by decide)]⟩, fun q _ hf => h.free hf⟩
theorem zFr_F {p : Nat} {S : zS} {k : Nat} {v : Int32} (hk : k = 13 ∨ k = 14 ∨ k = 15 ∨ k = 20) : zFr p S (zs_F S k p v) := by
  refine ⟨rfl, fun k2 a b c d e f g => ?_, fun q hq => ⟨?_, ?_, ?_⟩, fun q _ h => h⟩
  · funext j; exact zF_ne (by omega)
  · rw [zF_eq, if_neg (fun z => hq z.2)]
  · rw [zF_eq, if_neg (fun z => hq z.2)]
  · rw [zF_eq, if_neg (fun z => hq z.2)]
theorem zFr_3 {p : Nat} {S : zS} {i : Nat} {v : Int32} : zFr p S (zs_F S 3 i v) := by
  refine ⟨rfl, fun k2 a b c d e f g => ?_, fun q hq => ⟨?_, ?_, ?_⟩, fun q _ h => h⟩
  · funext j; exact zF_ne a
  · exact zF_ne (by decide)
  · exact zF_ne (by decide)
  · exact zF_ne (by decide)
theorem zFr_w {p : Nat} {S : zS} {v : Int32} : zFr p S (z_w S p v) := by
  refine ⟨rfl, fun k2 a b c d e f g => ?_, fun q hq => ⟨?_, ?_, ?_⟩, fun q _ h => h⟩
  · funext j; exact zF_wn (fun z => e z.1)
  · exact zF_wn (fun z => hq z.2)
  · exact zF_wn (fun z => hq z.2)
  · exact zF_wn (fun z => hq z.2)
theorem zFr_due {p : Nat} {S : zS} {st v : Int32} : zFr p S (z_due S p st v) := by
  refine ⟨rfl, fun _ _ _ _ _ _ _ _ => rfl, fun _ _ => ⟨rfl, rfl, rfl⟩, fun q hq h => ⟨h.1, h.2.1, ?_⟩⟩
  show q ∉ (z_D S ++ [(p, st, v)]).map Prod.fst
  rw [List.map_append]
  intro z
  rcases List.mem_append.mp z with z | z
  · exact h.2.2 z
  · exact hq (by simpa using z)
theorem zFr_post {p : Nat} {S : zS} {w : Nat} {l : zL} (hl : l.2.1 = p) : zFr p S (z_post S w l) := by
  refine ⟨rfl, fun _ _ _ _ _ _ _ _ => rfl, fun _ _ => ⟨rfl, rfl, rfl⟩, fun q hq h => ⟨h.1, fun v z => ?_, h.2.2⟩⟩
  rw [wp_post] at z
  rcases List.mem_append.mp z with z | z
  · exact h.2.1 v z
  · by_cases e : v = w ∧ ¬ l.1 = 2
    · rw [if_pos e, List.mem_singleton] at z
      exact hq (z.trans hl)
    · rw [if_neg e] at z
      exact absurd z List.not_mem_nil
theorem zFr_arr {p : Nat} {S : zS} {st v : Int32} : zFr p S (z_arr S p st v) := ((zFr_F (Or.inl rfl)).tr (zFr_F (Or.inr (Or.inl rfl)))).tr zFw_pws.fr
theorem zFr_ansH {p : Nat} {S : zS} {h : Nat} {st v : Int32} : zFr p S (z_ansH S h p st v) := by
  unfold z_ansH
  split
  · exact (zFr_F (k := 15) (Or.inr (Or.inr (Or.inl rfl)))).tr (zFr_post rfl)
  · exact (zFr_F (k := 15) (Or.inr (Or.inr (Or.inl rfl)))).tr zFr_due
theorem zFr_ansA {p : Nat} {S : zS} {h : Nat} {st v : Int32} : zFr p S (z_ansA S h p st v) := by
  unfold z_ansA
  split
  · exact (zFr_F (k := 15) (Or.inr (Or.inr (Or.inl rfl)))).tr (zFr_post rfl)
  · exact (zFr_F (k := 15) (Or.inr (Or.inr (Or.inl rfl)))).tr zFr_arr
theorem zFr_settle {p : Nat} {S : zS} {h : Nat} {st v : Int32} : zFr p S (z_settle S p h st v) := by
  unfold z_settle
  split
  · exact zFr_w.tr zFr_due
  · exact zFr_w.tr zFr_ansH
theorem zFr_unmove {p : Nat} {S : zS} : zFr p S (z_unmove S p) := by
  unfold z_unmove
  split
  · exact zFr.rf
  · exact zFr_3.tr (zFr_F (Or.inr (Or.inr (Or.inr rfl))))
theorem zFr_lose {p : Nat} {S : zS} {h : Nat} : zFr p S (z_lose S p h) := zFr_unmove.tr zFr_settle
theorem zFr_send {p : Nat} {S : zS} {h g : Nat} {th asked : Option Nat} : zFr p S (z_send S p h g th asked) := by
  unfold z_send
  split
  · exact ((zFr_F (Or.inr (Or.inr (Or.inl rfl)))).tr zFr_w).tr (zFr_post rfl)
  · exact (zFr_F (k := 15) (Or.inr (Or.inr (Or.inl rfl)))).tr zFr_lose
theorem zFr_go {p : Nat} {S : zS} {h : Nat} {st v : Int32} : zFr p S (z_go S p h st v) := by
  unfold z_go
  split
  · exact zFr_send
  · exact zFr_settle
-- who is held, who waits
theorem HQ_fw {S S2 : zS} (h : zFw S S2) : z_H S2 = z_H S ∧ z_Q S2 = z_Q S := ⟨h.2.2.1, h.2.2.2.1⟩
theorem HQ_arr {p : Nat} {S : zS} {st v : Int32} : z_H (z_arr S p st v) = z_H S ∧ z_Q (z_arr S p st v) = z_Q S := HQ_fw (S := zs_F (zs_F S 13 p st) 14 p v) zFw_pws
theorem HQ_ansH {p : Nat} {S : zS} {h : Nat} {st v : Int32} : z_H (z_ansH S h p st v) = z_H S ∧ z_Q (z_ansH S h p st v) = z_Q S := by
  unfold z_ansH
  split <;> exact ⟨rfl, rfl⟩
theorem HQ_ansA {p : Nat} {S : zS} {h : Nat} {st v : Int32} : z_H (z_ansA S h p st v) = z_H S ∧ z_Q (z_ansA S h p st v) = z_Q S := by
  unfold z_ansA
  split
  · exact ⟨rfl, rfl⟩
  · exact HQ_arr (S := zs_F S 15 p (z_F S 15 p + 1))
def zdrop (p : Nat) (f : Nat → List Nat) : Nat → List Nat := fun t => (f t).filter (fun q => !(q == p))
theorem HQ_settle {p : Nat} {S : zS} {h : Nat} {st v : Int32} : z_H (z_settle S p h st v) = zdrop p (z_H S) ∧ z_Q (z_settle S p h st v) = zdrop p (z_Q S) := by
  unfold z_settle
  split
  · exact ⟨rfl, rfl⟩
  · exact HQ_ansH (S := z_w S p 0)
theorem HQ_unmove {p : Nat} {S : zS} : z_H (z_unmove S p) = z_H S ∧ z_Q (z_unmove S p) = z_Q S := by
  unfold z_unmove
  split <;> exact ⟨rfl, rfl⟩
theorem HQ_lose {p : Nat} {S : zS} {h : Nat} : z_H (z_lose S p h) = zdrop p (z_H S) ∧ z_Q (z_lose S p h) = zdrop p (z_Q S) := by
  have h1 := HQ_settle (S := z_unmove S p) (p := p) (h := h) (st := 3) (v := 1)
  have h2 := HQ_unmove (S := S) (p := p)
  rw [h2.1, h2.2] at h1
  exact h1
theorem HQ_send {p : Nat} {S : zS} {h g : Nat} {th asked : Option Nat} : z_H (z_send S p h g th asked) = zdrop p (z_H S) ∧ z_Q (z_send S p h g th asked) = zdrop p (z_Q S) := by
  unfold z_send
  split
  · exact ⟨rfl, rfl⟩
  · exact HQ_lose (S := zs_F S 15 p (z_F S 15 p + 1))
theorem HQ_go {p : Nat} {S : zS} {h : Nat} {st v : Int32} : z_H (z_go S p h st v) = zdrop p (z_H S) ∧ z_Q (z_go S p h st v) = zdrop p (z_Q S) := by
  unfold z_go
  split
  · exact HQ_send
  · exact HQ_settle
-- what holds stays
theorem zval_ne {S : zS} {st v : Int32} (h : zval S st v) : ¬ st = 0 := by
  rcases h with h | h | h
  · rw [h]; decide
  · rw [h.1]; decide
  · rw [h]; decide
theorem I_13 {S : zS} {p : Nat} {st : Int32} (h : zI S) (hf : zFree S p) (h11 : ¬ z_F S 11 p = 0) (hst : ¬ st = 0) : zI (zs_F S 13 p st) := by
  obtain ⟨hv, ha, hb, hc, hd, he, hg, hh, hi, hj, hk, hm⟩ := h
  have f13 : ∀ q, q ≠ p → z_F (zs_F S 13 p st) 13 q = z_F S 13 q := fun q hq => by rw [zF_eq, if_neg (fun z => hq z.2)]
  refine ⟨hv, fun w l hl => ⟨(ha w l hl).1, ?_⟩, hb, hc, hd, he, hg, hh, ?_, hj, hk, fun q hq => ⟨fun z => ?_, (hm q hq).2⟩⟩
  · have hne : ¬ l.1 = 2 → l.2.1 ≠ p := fun h2 z => hf.2.1 w (mem_wp.mpr ⟨l, hl, h2, z⟩)
    rcases (ha w l hl).2 with h0 | h0 | ⟨k1, h0⟩ | h0
    · exact Or.inl h0
    · exact Or.inr (Or.inl h0)
    · refine Or.inr (Or.inr (Or.inl ⟨k1, h0.1, h0.2.1, h0.2.2.1, ?_, h0.2.2.2.2⟩))
      rw [f13 _ (hne (by omega))]; exact h0.2.2.2.1
    · exact Or.inr (Or.inr (Or.inr h0))
  · intro w q h2 hw hq hq1 hh1 hh2 hs
    refine hi w q h2 hw hq hq1 hh1 hh2 ?_
    by_cases e : h2 = z_hm S q
    · rw [if_pos e]
      have hs2 : (if h2 = z_hm S q then z_F S 11 q = 0 else z_F (zs_F S 13 p st) 13 q = 0) := hs
      rw [if_pos e] at hs2
      exact hs2
    · rw [if_neg e]
      have hs2 : (if h2 = z_hm S q then z_F S 11 q = 0 else z_F (zs_F S 13 p st) 13 q = 0) := hs
      rw [if_neg e] at hs2
      by_cases z : q = p
      · rw [z, zF_eq, if_pos ⟨rfl, rfl⟩] at hs2
        exact absurd hs2 hst
      · rw [f13 q z] at hs2
        exact hs2
  · by_cases y : q = p
    · subst y; exact absurd z h11
    · rw [f13 q y]; exact (hm q hq).1 z
theorem I_arr {S : zS} {p : Nat} {st v : Int32} (h : zI S) (hf : zFree S p) (h11 : ¬ z_F S 11 p = 0) (hz : zval S st v) : zI (z_arr S p st v) := by
  unfold z_arr
  have h1 : zI (zs_F (zs_F S 13 p st) 14 p v) := I_14 (I_13 h hf h11 (zval_ne hz))
  refine I_pws h1 hf.1 (h.1.2.2.1 p hf.1).1.2 ?_
  show ¬ (if z_ak S p = z_hm S p then z_F S 11 p = 0 else z_F (zs_F (zs_F S 13 p st) 14 p v) 13 p = 0)
  by_cases e : z_ak S p = z_hm S p
  · rw [if_pos e]; exact h11
  · rw [if_neg e, zF_ne (by decide), zF_eq, if_pos ⟨rfl, rfl⟩]
    exact zval_ne hz
theorem I_ansH {S : zS} {p h : Nat} {st v : Int32} (hI : zI S) (hf : zFree S p) (h16 : z_F S 16 p = 0) (h11 : z_F S 11 p = 0) (hz : zval S st v) (hh : h < 4) : zI (z_ansH S h p st v) := by
  have hm := (hI.1.2.2.1 p hf.1).2.1.2
  unfold z_ansH
  split
  · refine I_post (S := zs_F S 15 p (z_F S 15 p + 1)) (l := (1, p, none, none, st, v)) (I_15 hI) (by omega) (Or.inr (Or.inl ⟨rfl, hf.1, h16, h11, ?_, rfl, rfl, hz⟩)) (fun _ => hf) (fun z => absurd (show (1 : Nat) = 2 from z) (by decide))
    show (4 * h + z_hm S p) % 4 = z_hm S p
    omega
  · exact I_due (S := zs_F S 15 p (z_F S 15 p + 1)) (I_15 hI) hf h16 h11 (Or.inr (Or.inr rfl))
theorem I_ansA {S : zS} {p h : Nat} {st v : Int32} (hI : zI S) (hf : zFree S p) (h16 : z_F S 16 p = 0) (h11 : ¬ z_F S 11 p = 0) (h13 : z_F S 13 p = 0) (hne : ¬ z_ak S p = z_hm S p) (hz : zval S st v) (hh : h < 4) : zI (z_ansA S h p st v) := by
  have hm := (hI.1.2.2.1 p hf.1).1.2
  unfold z_ansA
  split
  · refine I_post (S := zs_F S 15 p (z_F S 15 p + 1)) (l := (3, p, none, none, st, v)) (I_15 hI) (by omega) (Or.inr (Or.inr (Or.inl ⟨rfl, hf.1, h16, h11, h13, ?_, hne, rfl, rfl, hz⟩))) (fun _ => hf) (fun z => absurd (show (3 : Nat) = 2 from z) (by decide))
    show (4 * h + z_ak S p) % 4 = z_ak S p
    omega
  · exact I_arr (S := zs_F S 15 p (z_F S 15 p + 1)) (I_15 hI) hf h11 (Or.inr (Or.inr rfl))
theorem I_settle {S : zS} {p h : Nat} {st v : Int32} (hI : zI S) (hf : zFree S p) (h11 : z_F S 11 p = 0) (h20 : z_F S 20 p < 0) (hz : zval S st v) (hh : h < 4) : zI (z_settle S p h st v) := by
  obtain ⟨h1, h2⟩ := I_w (v := 0) hI hf (Or.inl rfl) (fun _ => h20)
  have h16 : z_F (z_w S p 0) 16 p = 0 := by rw [zF_w, if_pos ⟨rfl, rfl⟩]
  unfold z_settle
  split
  · exact I_due h1 h2 h16 h11 hz
  · exact I_ansH h1 h2 h16 h11 hz hh
theorem I_20 {S : zS} {p : Nat} (hI : zI S) : zI (zs_F S 20 p (-1)) := by
  obtain ⟨hv, ha, hb, hc, hd, he, hg, hh, hi, hj, hk, hm⟩ := hI
  refine ⟨hv, fun w l hl => ⟨(ha w l hl).1, ?_⟩, hb, hc, hd, he, hg, hh, hi, hj, fun q hq => ?_, hm⟩
  · rcases (ha w l hl).2 with ⟨k1, k2, k3, k4, k5, k6⟩ | h0 | h0 | h0
    · refine Or.inl ⟨k1, k2, k3, k4, ?_, k6⟩
      rcases k5 with z | ⟨q, z1, z2, z3, z4⟩
      · exact Or.inl z
      · refine Or.inr ⟨q, z1, z2, z3, ?_⟩
        rw [zF_eq]
        split
        · decide
        · exact z4
    · exact Or.inr (Or.inl h0)
    · exact Or.inr (Or.inr (Or.inl h0))
    · exact Or.inr (Or.inr (Or.inr h0))
  by_cases e : q = p
  · refine Or.inl ?_
    rw [zF_eq, if_pos ⟨rfl, e⟩]; decide
  · rw [zF_eq, if_neg (fun z => e z.2)]
    exact hk q hq
theorem I_unmove {S : zS} {p : Nat} (hI : zI S) : zI (z_unmove S p) ∧ z_F (z_unmove S p) 20 p < 0 := by
  unfold z_unmove
  split
  · rename_i h
    exact ⟨hI, h⟩
  · exact ⟨I_20 (I_3 hI), by rw [zF_eq, if_pos ⟨rfl, rfl⟩]; decide⟩
theorem unmove_11 {S : zS} {p : Nat} : z_F (z_unmove S p) 11 = z_F S 11 ∧ (∀ q, zFree S q → zFree (z_unmove S p) q) := by
  unfold z_unmove
  split
  · exact ⟨rfl, fun _ h => h⟩
  · exact ⟨rfl, fun _ h => h⟩
theorem I_lose {S : zS} {p h : Nat} (hI : zI S) (hf : zFree S p) (h11 : z_F S 11 p = 0) (hh : h < 4) : zI (z_lose S p h) := by
  obtain ⟨h1, h2⟩ := I_unmove (p := p) hI
  have h3 := unmove_11 (S := S) (p := p)
  exact I_settle h1 (h3.2 p hf) (by rw [h3.1]; exact h11) h2 (Or.inr (Or.inr rfl)) hh
theorem I_send {S : zS} {p h g : Nat} {th asked : Option Nat} (hI : zI S) (hf : zFree S p) (h11 : z_F S 11 p = 0) (hh : h < 4) (hg : g < 4) (hl : (∃ t, t < z_N S 0 ∧ th = some t ∧ asked = none) ∨ (∃ q, q < z_N S 1 ∧ th = none ∧ asked = some q ∧ z_F S 20 p < 0)) : zI (z_send S p h g th asked) := by
  unfold z_send
  split
  · obtain ⟨h1, h2⟩ := I_w (S := zs_F S 15 p (z_F S 15 p + 1)) (v := 3) (I_15 hI) hf (Or.inr rfl) (fun z => absurd z (by decide))
    exact I_post (S := z_w (zs_F S 15 p (z_F S 15 p + 1)) p 3) (l := (0, p, th, asked, 0, 0)) h1 (by omega) (Or.inl ⟨rfl, hf.1, by rw [zF_w, if_pos ⟨rfl, rfl⟩], h11, hl, rfl⟩) (fun _ => h2) (fun z => absurd (show (0 : Nat) = 2 from z) (by decide))
  · exact I_lose (I_15 hI) hf h11 hh
theorem I_sendT {S : zS} {p h t : Nat} (hI : zI S) (hf : zFree S p) (h11 : z_F S 11 p = 0) (hh : h < 4) (ht : t < z_N S 0) : zI (z_sendT S p h t) := I_send hI hf h11 hh (hI.1.2.1 t ht).1.2 (Or.inl ⟨t, ht, rfl, rfl⟩)
theorem I_go {S : zS} {p h : Nat} {st v : Int32} (hI : zI S) (hf : zFree S p) (h11 : z_F S 11 p = 0) (h20 : z_F S 20 p < 0) (hz : zval S st v) (hh : h < 4) : zI (z_go S p h st v) := by
  unfold z_go
  split
  · rename_i e
    rcases hz with z | ⟨-, t, ht, ev⟩ | z
    · rw [z] at e; exact absurd e (by decide)
    · have : v.toNatClampNeg = t := by rw [ev]; exact nI_clamp (by have := hI.1.1; omega)
      rw [this]
      exact I_sendT hI hf h11 hh ht
    · rw [z] at e; exact absurd e (by decide)
  · exact I_settle hI hf h11 h20 (Or.inr (Or.inr rfl)) hh
