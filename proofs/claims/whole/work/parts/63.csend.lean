/-! The class posts, settles, sends -/
theorem F_comm {S : zS} {k i k2 j : Nat} {v w : Int32} (h : ¬ k = k2 := by omega) : zs_F (zs_F S k i v) k2 j w = zs_F (zs_F S k2 j w) k i v := by
  have e : xu_2 (xu_2 (z_F S) k i v) k2 j w = xu_2 (xu_2 (z_F S) k2 j w) k i v := by
    funext a b
    unfold xu_2
    by_cases h1 : a = k ∧ b = i
    · have : ¬ (a = k2 ∧ b = j) := by omega
      simp [h1, this]
      intro z; omega
    · by_cases h2 : a = k2 ∧ b = j
      · simp [h1, h2]
        intro z; omega
      · simp [h1, h2]
  show (xu_2 (xu_2 (z_F S) k i v) k2 j w, z_N S, z_u S, z_r S, z_W S, z_H S, z_Q S, z_D S) = _
  rw [e]; rfl
theorem F_over {S : zS} {k i : Nat} {v w : Int32} : zs_F (zs_F S k i v) k i w = zs_F S k i w := by
  have e : xu_2 (xu_2 (z_F S) k i v) k i w = xu_2 (z_F S) k i w := by
    funext a b
    unfold xu_2
    by_cases h1 : a = k ∧ b = i
    · simp [h1]
    · simp [h1]
  show (xu_2 (xu_2 (z_F S) k i v) k i w, z_N S, z_u S, z_r S, z_W S, z_H S, z_Q S, z_D S) = _
  rw [e]; rfl
theorem w_id {S : zS} {p : Nat} {v : Int32} (hH : ∀ t, p ∉ z_H S t) (hQ : ∀ t, p ∉ z_Q S t) : z_w S p v = zs_F S 16 p v := by
  have e1 : zdrop p (z_H S) = z_H S := zdrop_id hH
  have e2 : zdrop p (z_Q S) = z_Q S := zdrop_id hQ
  show (xu_2 (z_F S) 16 p v, z_N S, z_u S, z_r S, z_W S, zdrop p (z_H S), zdrop p (z_Q S), z_D S) = _
  rw [e1, e2]; rfl
theorem wix2 {a b : Nat} (ha : a < 4) (hb : b < 4) : nI a * 4 + nI b = nI (4 * a + b) := by
  have h1 : a = 0 ∨ a = 1 ∨ a = 2 ∨ a = 3 := by omega
  have h2 : b = 0 ∨ b = 1 ∨ b = 2 ∨ b = 3 := by omega
  rcases h1 with rfl | rfl | rfl | rfl <;> rcases h2 with rfl | rfl | rfl | rfl <;> decide
theorem nneg {a : Nat} (h : a < 1000) : ¬ nI a < 0 := by rw [← nI_0, nI_ltI (by omega) (by omega)]; omega
theorem nlt {a b : Nat} (h : a < 1000) (hb : b < 1000) : nI a < nI b ↔ a < b := nI_ltI (by omega) (by omega)
theorem nle {a b : Nat} (h : a < 1000) (hb : b < 1000) : nI a ≤ nI b ↔ a ≤ b := nI_leI (by omega) (by omega)
theorem c_wire {x : Nat} {σ : xS} {S : zS} {g : zG} {B : Nat → List Nat} {a b : Nat} {Q : Option Nat → Prop} (h : RC x σ S g B) (ha : a < 4) (hb : b < 4) (k : Q (some (x + 6 + 2 * (4 * a + b)))) : wp_X6_wireAt σ x (nI a) (nI b) Q := by
  unfold wp_X6_wireAt
  rw [show (4 : Int32) = nI 4 from rfl, nle (by omega) (by omega), nlt (by omega) (by omega)]
  refine ⟨fun z => absurd z (nneg (by omega)), fun _ => ⟨fun z => absurd z (by omega), fun _ => ⟨fun z => absurd z (nneg (by omega)), fun _ => ⟨fun _ => ⟨?_, ?_⟩, fun z => absurd hb z⟩⟩⟩⟩
  · rw [show nI 4 = (4 : Int32) from rfl, wix2 ha hb]; exact vpI (by omega)
  · rw [show nI 4 = (4 : Int32) from rfl, wix2 ha hb, cl40 (by omega), (h.2.2.1.2.2.2 (4 * a + b) (by omega)).1]
    exact k
theorem c_thing {x : Nat} {σ : xS} {S : zS} {g : zG} {B : Nat → List Nat} {v : Int32} {Q : Option Nat → Prop} (h : RC x σ S g B) (hN : z_N S 0 ≤ 40) (k0 : zix (z_N S 0) v = none → Q none) (k1 : ∀ t, t < z_N S 0 → v = nI t → zix (z_N S 0) v = some t → Q (some (gT g t))) : wp_X6_thingAt σ x v Q := by
  unfold wp_X6_thingAt
  rw [h.1.2.1]
  refine ix_cases (N := z_N S 0) (v := v) (fun e => ?_) (fun t ht e e2 => ?_)
  · have hn := ix_none.mp e
    refine ⟨fun _ => k0 e, fun z => ⟨fun _ => k0 e, fun y => absurd (hn.elim (fun w => absurd w z) id) y⟩⟩
  · subst e
    rw [show (40 : Int32) = nI 40 from rfl, nle (by omega) (by omega), nlt (by omega) (by omega), cl40 (by omega), (h.2.2.1.1 t ht).1]
    exact ⟨fun z => absurd z (nneg (by omega)), fun _ => ⟨fun z => absurd z (by omega), fun _ => ⟨fun _ => ⟨vpI (by omega), k1 t ht rfl e2⟩, fun z => absurd (by omega) z⟩⟩⟩
theorem c_promise {x : Nat} {σ : xS} {S : zS} {g : zG} {B : Nat → List Nat} {v : Int32} {Q : Option Nat → Prop} (h : RC x σ S g B) (hN : z_N S 1 ≤ 100) (k0 : zix (z_N S 1) v = none → Q none) (k1 : ∀ t, t < z_N S 1 → v = nI t → zix (z_N S 1) v = some t → Q (some (gM g t + 1))) : wp_X6_promiseAt σ x v Q := by
  unfold wp_X6_promiseAt
  rw [h.1.2.2.1]
  refine ix_cases (N := z_N S 1) (v := v) (fun e => ?_) (fun t ht e e2 => ?_)
  · have hn := ix_none.mp e
    refine ⟨fun _ => k0 e, fun z => ⟨fun _ => k0 e, fun y => absurd (hn.elim (fun w => absurd w z) id) y⟩⟩
  · subst e
    rw [show (100 : Int32) = nI 100 from rfl, nle (by omega) (by omega), nlt (by omega) (by omega), cl40 (by omega), (h.2.2.1.2.1 t ht).1]
    exact ⟨fun z => absurd z (nneg (by omega)), fun _ => ⟨fun z => absurd z (by omega), fun _ => ⟨fun _ => ⟨vpI (by omega), k1 t ht rfl e2⟩, fun z => absurd (by omega) z⟩⟩⟩
/-- a letter is posted: of a promise's message -/
theorem Lt_I {σ σ2 : xS} {S : zS} {g : zG} {f b c : Nat} {v : Int32} {l : zL} (e : σ2 = xs_I σ f c v) (hf : f = 74 ∨ f = 75) (h : zLt σ S g b l) : zLt σ2 S g b l := by
  have hI : ∀ f2 a, ¬ f2 = f → xh_I σ2 f2 a = xh_I σ f2 a := fun f2 a z => by rw [e, xI2, if_neg (fun y => z y.1)]
  unfold zLt at h ⊢
  rw [hI _ _ (by omega), hI _ _ (by omega), hI _ _ (by omega), hI _ _ (by omega), hI _ _ (by omega), show xh_R σ2 = xh_R σ from by rw [e]; rfl]
  exact h
theorem c_post {x : Nat} {σ : xS} {S : zS} {g : zG} {B : Nat → List Nat} {p h u : Nat} {l : zL} {Q : Int32 → xS → Prop} (hR : RC x σ S g B) (hp : p < z_N S 1) (hl : lose S g B (gM g p)) (hh : h < 4) (hu : u < 4) (hlt : zLt σ S g (gM g p) l)
    (k1 : z_F S 36 (4 * h + u) = 0 → ∀ σ2, (∀ f a, f = 71 ∨ f = 72 ∨ f = 73 → xh_I σ2 f a = xh_I σ f a) → RC x σ2 (z_post (zs_F S 15 p (z_F S 15 p + 1)) (4 * h + u) l) g (va_up B (4 * h + u) (B (4 * h + u) ++ [gM g p])) → Q 1 σ2)
    (k0 : ¬ z_F S 36 (4 * h + u) = 0 → ∀ σ2, (∀ f a, ¬ f = 75 → xh_I σ2 f a = xh_I σ f a) → RC x σ2 (zs_F S 15 p (z_F S 15 p + 1)) g B → Q 0 σ2) : wp_X6_post σ x (gM g p) (nI h) (nI u) Q := by
  obtain ⟨m1, m2, m3, m4, m5⟩ := hR.2.2.2.1.2.1 p hp
  have h15 : xh_I σ 75 (gM g p) = z_F S 15 p := rI hR 15 p (by decide) hp
  unfold wp_X6_post
  refine ⟨m1, fun σ1 e1 => ?_⟩
  rw [h15] at e1
  have R1 : RC x σ1 (zs_F S 15 p (z_F S 15 p + 1)) g B := R_F hR (k := 15) (i := p) e1 (by decide) hp
  have hk1 : xh_k σ1 = xh_k σ := by rw [e1]; rfl
  have hn1 : xh_n σ1 = xh_n σ := by rw [e1]; rfl
  refine c_wire R1 hh hu ⟨fun z => (by cases z), fun a6 z => ?_⟩
  cases z
  have hw : 4 * h + u < 16 := by omega
  have h36 : xh_I σ1 323 (x + 6 + 2 * (4 * h + u)) = z_F S 36 (4 * h + u) := rI R1 36 (4 * h + u) (by decide) hw
  rw [h36]
  refine ⟨(R1.2.2.2.1.2.2.2.1 _ hw).1, fun z => ⟨x + 7 + 2 * (4 * h + u), (R1.2.2.1.2.2.2 _ hw).2.2.2, (R1.2.2.2.1.2.2.2.1 _ hw).2, ?_⟩, fun z => k0 z σ1 (fun f a hf => by rw [e1, xI2, if_neg (fun y => hf y.1)]) R1⟩
  exact c_addW R1 hw (by rw [hk1]; exact m1) (by rw [hn1]; omega) hl (Lt_I e1 (Or.inr rfl) hlt) (fun σ2 q R2 => ⟨R2.1.1, k1 z σ2 (fun f a hf => by rw [q.2.1 f a hf, e1, xI2, if_neg (by omega)]) R2⟩)
/-- the answers of all other messages stay -/
def zF7 (b : Nat) (σ σ2 : xS) : Prop := ∀ f a, (f = 71 ∨ f = 72 ∨ f = 73) → a ≠ b → xh_I σ2 f a = xh_I σ f a
theorem zF7.tr {b : Nat} {σ σ2 σ3 : xS} (h : zF7 b σ σ2) (h2 : zF7 b σ2 σ3) : zF7 b σ σ3 := fun f a hf ha => (h2 f a hf ha).trans (h f a hf ha)
theorem zFs.f7 {b : Nat} {σ σ2 : xS} (h : zFs σ σ2) : zF7 b σ σ2 := fun f a hf _ => h.2.1 f a hf
theorem c_answer {x : Nat} {σ : xS} {S : zS} {g : zG} {B : Nat → List Nat} {b : Nat} {st v : Int32} {Q : Int32 → xS → Prop} (hR : RC x σ S g B) (hl : lose S g B b) (k : ∀ σ2, (∀ f a, ¬ (a = b ∧ (f = 72 ∨ f = 73)) → xh_I σ2 f a = xh_I σ f a) → xh_R σ2 = xh_R σ → xh_k σ2 = xh_k σ → xh_n σ2 = xh_n σ → xh_I σ2 72 b = st → xh_I σ2 73 b = v → RC x σ2 S g B → Q 0 σ2) : wp_X1_answer σ b st v Q := by
  unfold wp_X1_answer
  intro σ1 e1 σ2 e2
  have R1 := R_l hR hl e1 (by omega)
  have R2 := R_l R1 hl e2 (by omega)
  refine k σ2 (fun f a n1 => ?_) (by rw [e2, e1]; rfl) (by rw [e2, e1]; rfl) (by rw [e2, e1]; rfl) ?_ ?_ R2
  · rw [e2, xI2, if_neg (fun z => n1 ⟨z.2, Or.inr z.1⟩), e1, xI2, if_neg (fun z => n1 ⟨z.2, Or.inl z.1⟩)]
  · rw [e2, xI2, if_neg (by omega), e1, xI2, if_pos ⟨rfl, rfl⟩]
  · rw [e2, xI2, if_pos ⟨rfl, rfl⟩]
theorem zO_neg {g : zG} {v : Int32} (h : v < 0) : zO g v = none := by unfold zO; rw [if_pos h]
theorem zO_nI {g : zG} {t : Nat} (h : t < 1000) : zO g (nI t) = some (gT g t) := by
  unfold zO; rw [if_neg (nneg h), cl40 h]
theorem R_20 {x : Nat} {σ σ2 : xS} {S : zS} {g : zG} {B : Nat → List Nat} {p : Nat} {v : Int32} (h : RC x σ S g B) (hp : p < z_N S 1) (hl : lose S g B (gM g p)) (e : σ2 = xs_R σ 70 (gM g p) (zO g v)) : RC x σ2 (zs_F S 20 p v) g B := by
  refine R_70 h e hl (fun k hk => funext (fun _ => zF_ne hk)) rfl rfl rfl rfl rfl rfl rfl (fun q hq => ?_)
  rw [e, xR2, zF_eq]
  by_cases z : q = p
  · subst z; simp
  · rw [if_neg (fun y => z (h.2.2.2.1.2.2.2.2.2.2.1 q p hq hp y.2)), if_neg (fun y => z y.2)]
    exact (h.2.2.1.2.1 q hq).2.2.2.2.2.1
theorem free_unmove {S : zS} {p q : Nat} (h : zFree S q) : zFree (z_unmove S p) q := by
  unfold z_unmove
  split
  · exact h
  · exact h
/-- as c_break, of a state that only needs to know where what is moved came from -/
theorem c_break2 {x : Nat} {σ : xS} {S : zS} {g : zG} {B : Nat → List Nat} {p : Nat} {Q : xS → Prop} (hR : RC x σ S g B) (b : z_N S 0 ≤ 40 ∧ z_N S 1 ≤ 100 ∧ z_N S 2 ≤ 40) (h20 : ∀ q, q < z_N S 1 → z_F S 20 q < 0 ∨ ∃ t, t < z_N S 0 ∧ z_F S 20 q = nI t) (hp : p < z_N S 1) (hl : lose S g B (gM g p)) (k : ∀ σ2, zF7 (gM g p) σ σ2 → xh_I σ2 72 (gM g p) = 3 → xh_I σ2 73 (gM g p) = 1 → xh_I σ2 71 (gM g p) = xh_I σ 71 (gM g p) → RC x σ2 (z_unmove S p) g B → Q σ2) : wp_X1_breakByCut σ (gM g p) Q := by
  have h70 := (hR.2.2.1.2.1 p hp).2.2.2.2.2.1
  have h18 : xh_I σ 66 (gM g p) = z_F S 18 p := rI hR 18 p (by decide) hp
  unfold wp_X1_breakByCut
  rw [h70]
  unfold z_unmove at k
  rcases h20 p hp with hneg | ⟨t, ht, et⟩
  · rw [if_pos hneg] at k
    rw [zO_neg hneg]
    refine ⟨fun _ => ?_, fun a z => (by cases z)⟩
    exact c_answer hR hl (fun σ2 hI2 _ _ _ h72 h73 R2 => k σ2 (fun f a _ ha => hI2 f a (fun z => ha z.1)) h72 h73 (hI2 _ _ (by omega)) R2)
  · have hnn : ¬ z_F S 20 p < 0 := by rw [et]; exact nneg (by omega)
    rw [if_neg hnn, et, cl40 (by omega)] at k
    rw [et, zO_nI (by omega)]
    refine ⟨fun z => (by cases z), fun a z => ?_⟩
    cases z
    have h3 : xh_I σ 198 (gT g t) = z_F S 3 t := rI hR 3 t (by decide) ht
    rw [h3, h18]
    refine ⟨(hR.2.2.2.1.1 t ht).1, fun σ1 e1 σ2 e2 => ?_⟩
    have R1 : RC x σ1 (zs_F S 3 t (z_F S 3 t + z_F S 18 p)) g B := R_F hR (k := 3) (i := t) e1 (by decide) ht
    have R2 : RC x σ2 (zs_F (zs_F S 3 t (z_F S 3 t + z_F S 18 p)) 20 p (-1)) g B := R_20 R1 hp hl e2
    refine c_answer R2 hl (fun σ3 hI3 _ _ _ h72 h73 R3 => k σ3 (fun f a hf ha => ?_) h72 h73 ?_ R3)
    · rw [hI3 f a (fun z => ha z.1), e2, show xh_I (xs_R σ1 70 (gM g p) none) = xh_I σ1 from rfl, e1, xI2, if_neg (by omega)]
    rw [hI3 _ _ (by omega), e2, show xh_I (xs_R σ1 70 (gM g p) none) = xh_I σ1 from rfl, e1, xI2, if_neg (by omega)]
theorem c_break {x : Nat} {σ : xS} {S : zS} {g : zG} {B : Nat → List Nat} {p : Nat} {Q : xS → Prop} (hR : RC x σ S g B) (hI : zI S) (hp : p < z_N S 1) (hl : lose S g B (gM g p)) (k : ∀ σ2, zF7 (gM g p) σ σ2 → xh_I σ2 72 (gM g p) = 3 → xh_I σ2 73 (gM g p) = 1 → xh_I σ2 71 (gM g p) = xh_I σ 71 (gM g p) → RC x σ2 (z_unmove S p) g B → Q σ2) : wp_X1_breakByCut σ (gM g p) Q :=
  c_break2 hR hI.1.1 (fun q hq => (hI.2.2.2.2.2.2.2.2.2.2.1 q hq).imp id (fun z => z.2)) hp hl k
theorem lose_of16 {w0 : Int32} {x : Nat} {σ : xS} {S : zS} {g : zG} {B : Nat → List Nat} {p : Nat} (h : RC x σ (zs_F S 16 p w0) g B) (hI : zI S) (hf : zFree S p) (hH : ∀ t, p ∉ z_H S t) (hQ : ∀ t, p ∉ z_Q S t) : lose S g B (gM g p) := by
  have inj : ∀ p p2, p < z_N S 1 → p2 < z_N S 1 → gM g p = gM g p2 → p = p2 := h.2.2.2.1.2.2.2.2.2.2.1
  refine lV_ind (fun z => ?_) (fun w hw z => ?_) (fun t ht z => ?_) (fun q hq z => ?_)
  · rw [lL_0, List.mem_map] at z
    obtain ⟨d, hd, e⟩ := z
    have := inj d.1 p (hI.2.2.2.1.1 d hd).1 hf.1 e
    exact hf.2.2 (by rw [← this]; exact List.mem_map.mpr ⟨d, hd, rfl⟩)
  · rw [lL_1] at z
    obtain ⟨l, hl, hbl⟩ := F2_mem _ _ _ (h.2.2.2.2.2.1 w hw) z
    have hok := (hI.2.1 w l hl).2
    have key : ¬ l.1 = 2 → gM g p = gM g l.2.1 → False := fun n2 e => by
      have := inj p l.2.1 hf.1 (zLok_lt hok n2) e
      exact hf.2.1 w (mem_wp.mpr ⟨l, hl, n2, this.symm⟩)
    rcases hbl with ⟨l1, l2, -⟩ | ⟨l1, l2, -⟩ | ⟨l1, -, l3, -⟩
    · exact key (by omega) l2
    · exact key (by omega) l2
    · exact l3 p hf.1 rfl
  · rw [lL_2, List.mem_map] at z
    obtain ⟨q, hq, e⟩ := z
    have := inj q p (hI.2.2.2.2.1 t q hq).2.1 hf.1 e
    exact hH t (by rw [← this]; exact hq)
  · rw [lL_3, List.mem_map] at z
    obtain ⟨q2, hq2, e⟩ := z
    have := inj q2 p (hI.2.2.2.2.2.2.1 q q2 hq2).2.1 hf.1 e
    exact hQ q (by rw [← this]; exact hq2)
theorem c_settle2 {w0 : Int32} {x : Nat} {σ : xS} {S : zS} {g : zG} {B : Nat → List Nat} {p h : Nat} {st v : Int32} {Q : xS → Prop} (hR : RC x σ (zs_F S 16 p w0) g B) (hI : zI S) (hf : zFree S p) (hH : ∀ t, p ∉ z_H S t) (hQ : ∀ t, p ∉ z_Q S t) (h20 : z_F S 20 p < 0) (h72 : xh_I σ 72 (gM g p) = st) (h73 : xh_I σ 73 (gM g p) = v) (hh : h < 4) (k : ∀ σ2 B2, zF7 (gM g p) σ σ2 → RC x σ2 (z_settle S p h st v) g B2 → Q σ2) : wp_X6_settle σ x (gM g p) (nI h) Q := by
  have hp := hf.1
  have hl : lose S g B (gM g p) := lose_of16 hR hI hf hH hQ
  obtain ⟨m1, m2, m3, m4, m5⟩ := hR.2.2.2.1.2.1 p hp
  obtain ⟨-, ⟨hm1, hm2⟩, -⟩ := hI.1.2.2.1 p hp
  unfold wp_X6_settle
  refine ⟨m1, fun σ1 e1 => ?_⟩
  have R1 : RC x σ1 (zs_F S 16 p 0) g B := by
    have := R_F hR (k := 16) (i := p) e1 (by decide) hp
    rw [F_over] at this
    exact this
  have h64 : xh_R σ1 64 (gM g p) = some (gM g p + 1) := (R1.2.2.1.2.1 p hp).2.2.2.2.1
  rw [h64]
  refine ⟨fun z => (by cases z), fun a4 z => ?_⟩
  cases z
  intro σ2 e2
  have R2 : RC x σ2 (zs_F S 16 p 0) g B := R_l R1 hl e2 (by omega)
  have h10 : xh_I σ2 130 (gM g p + 1) = z_F S 10 p := rI R2 10 p (by decide) hp
  have I2 : ∀ f a, ¬ f = 71 → ¬ f = 74 → xh_I σ2 f a = xh_I σ f a := fun f a n1 n2 => by rw [e2, xI2, if_neg (fun y => n1 y.1), e1, xI2, if_neg (fun y => n2 y.1)]
  have f2 : zF7 (gM g p) σ σ2 := fun f a hf ha => by rw [e2, xI2, if_neg (fun y => ha y.2), e1, xI2, if_neg (fun y => ha y.2)]
  have h71 : xh_I σ2 71 (gM g p) = 1 := by rw [e2, xI2, if_pos ⟨rfl, rfl⟩]
  rw [h10, hm1, nI_eq (by omega) (by omega)]
  unfold z_settle at k
  rw [w_id hH hQ] at k
  refine ⟨(R2.2.2.2.1.2.1 p hp).2.1, fun z => ?_, fun z => ?_⟩
  · rw [if_pos z] at k
    exact c_addD R2 hp hl h71 (by rw [I2 _ _ (by omega) (by omega)]; exact h72) (by rw [I2 _ _ (by omega) (by omega)]; exact h73) (fun σ3 q3 R3 => ⟨R3.1.1, k σ3 B (f2.tr q3.f7) R3⟩)
  · rw [if_neg z] at k
    unfold z_ansH at k
    have hlt : zLt σ2 (zs_F S 16 p 0) g (gM g p) (1, p, none, none, st, v) := Or.inr (Or.inl ⟨Or.inl rfl, rfl, h71, by rw [I2 _ _ (by omega) (by omega)]; exact h72, by rw [I2 _ _ (by omega) (by omega)]; exact h73⟩)
    refine c_post R2 hp hl hh hm2 hlt (fun z36 σ3 f3 R3 => ⟨fun y => absurd y (by decide), fun _ => ?_⟩) (fun z36 σ3 I3 R3 => ⟨fun _ => ?_, fun y => absurd rfl y⟩)
    · rw [if_pos (show z_F (zs_F S 16 p 0) 36 (4 * h + z_hm (zs_F S 16 p 0) p) = 0 from z36)] at k
      exact k σ3 _ (f2.tr (fun f a hf _ => f3 f a hf)) R3
    · rw [if_neg (show ¬ z_F (zs_F S 16 p 0) 36 (4 * h + z_hm (zs_F S 16 p 0) p) = 0 from z36)] at k
      have h16b : xh_k σ3 (gM g p) = 2 := (R3.2.2.2.1.2.1 p hp).1
      have h70 := (R3.2.2.1.2.1 p hp).2.2.2.2.2.1
      have h20b : z_F (zs_F (zs_F S 16 p 0) 15 p (z_F (zs_F S 16 p 0) 15 p + 1)) 20 p < 0 := by
        rw [zF_ne (by omega), zF_ne (by omega)]; exact h20
      refine ⟨h16b, ?_⟩
      unfold wp_X1_breakByCut
      rw [h70, zO_neg h20b]
      refine ⟨fun _ => ?_, fun a z => (by cases z)⟩
      refine c_answer R3 hl (fun σ4 hI4 _ _ _ g72 g73 R4 => ⟨R4.1.1, ?_⟩)
      exact c_addD R4 hp hl (by rw [hI4 _ _ (by omega), I3 _ _ (by omega)]; exact h71) g72 g73 (fun σ5 q5 R5 => ⟨R5.1.1, k σ5 B (f2.tr (zF7.tr (fun f a hf _ => I3 f a (by omega)) (zF7.tr (fun f a _ ha => hI4 f a (fun z => ha z.1)) q5.f7))) R5⟩)
theorem c_settle {x : Nat} {σ : xS} {S : zS} {g : zG} {B : Nat → List Nat} {p h : Nat} {st v : Int32} {Q : xS → Prop} (hR : RC x σ S g B) (hI : zI S) (hf : zFree S p) (hH : ∀ t, p ∉ z_H S t) (hQ : ∀ t, p ∉ z_Q S t) (h20 : z_F S 20 p < 0) (h72 : xh_I σ 72 (gM g p) = st) (h73 : xh_I σ 73 (gM g p) = v) (hh : h < 4) (k : ∀ σ2 B2, zF7 (gM g p) σ σ2 → RC x σ2 (z_settle S p h st v) g B2 → Q σ2) : wp_X6_settle σ x (gM g p) (nI h) Q := by
  have e : zs_F S 16 p (z_F S 16 p) = S := F_id rfl
  exact c_settle2 (w0 := z_F S 16 p) (by rw [e]; exact hR) hI hf hH hQ h20 h72 h73 hh k
theorem settle_16 {S : zS} {p h : Nat} {st v w : Int32} : z_settle (zs_F S 16 p w) p h st v = z_settle S p h st v := by
  have e : z_w (zs_F S 16 p w) p 0 = z_w S p 0 := by
    have e2 : xu_2 (xu_2 (z_F S) 16 p w) 16 p 0 = xu_2 (z_F S) 16 p 0 := by
      funext a b
      unfold xu_2
      by_cases h1 : a = 16 ∧ b = p
      · simp [h1]
      · simp [h1]
    show (xu_2 (xu_2 (z_F S) 16 p w) 16 p 0, z_N S, z_u S, z_r S, z_W S, zdrop p (z_H S), zdrop p (z_Q S), z_D S) = _
    rw [e2]; rfl
  have e3 : z_hm (zs_F S 16 p w) p = z_hm S p := by unfold z_hm; rw [zF_ne (by omega)]
  unfold z_settle
  rw [e, e3]
theorem unmove_16 {S : zS} {p : Nat} {w : Int32} : z_unmove (zs_F S 16 p w) p = zs_F (z_unmove S p) 16 p w := by
  unfold z_unmove
  rw [zF_ne (show ¬ 20 = 16 by omega), zF_ne (show ¬ 3 = 16 by omega), zF_ne (show ¬ 18 = 16 by omega)]
  by_cases h : z_F S 20 p < 0
  · rw [if_pos h, if_pos h]
  · rw [if_neg h, if_neg h, F_comm (k := 16) (k2 := 3), F_comm (k := 16) (k2 := 20)]
theorem lose_16 {S : zS} {p h : Nat} {w : Int32} : z_lose (zs_F S 16 p w) p h = z_lose S p h := by
  unfold z_lose
  rw [unmove_16, settle_16]
theorem c_send {x : Nat} {σ : xS} {S : zS} {g : zG} {B : Nat → List Nat} {p h u : Nat} {th asked : Option Nat} {Q : xS → Prop} (hR : RC x σ S g B) (hI : zI S) (hf : zFree S p) (hH : ∀ t, p ∉ z_H S t) (hQ : ∀ t, p ∉ z_Q S t) (h71 : xh_I σ 71 (gM g p) = 0) (h68 : xh_R σ 68 (gM g p) = zOT g th) (h69 : xh_R σ 69 (gM g p) = zOP g asked) (hd : (∃ t, t < z_N S 0 ∧ th = some t ∧ u = z_hs S t) ∨ (∃ q, q < z_N S 1 ∧ th = none ∧ asked = some q ∧ u = z_hm S q)) (hh : h < 4) (k : ∀ σ2 B2, zF7 (gM g p) σ σ2 → RC x σ2 (z_send S p h u th asked) g B2 → Q σ2) : wp_X6_send σ x (gM g p) (nI h) Q := by
  have hp := hf.1
  have hl := lose_of hR hI hf hH hQ
  obtain ⟨m1, m2, m3, m4, m5⟩ := hR.2.2.2.1.2.1 p hp
  unfold wp_X6_send
  refine ⟨m1, fun σ1 e1 => ?_⟩
  have R1 : RC x σ1 (zs_F S 16 p 3) g B := R_F hR (k := 16) (i := p) e1 (by decide) hp
  have Rr : xh_R σ1 = xh_R σ := by rw [e1]; rfl
  have I1 : ∀ f a, ¬ f = 74 → xh_I σ1 f a = xh_I σ f a := fun f a n1 => by rw [e1, xI2, if_neg (fun y => n1 y.1)]
  have f1 : zF7 (gM g p) σ σ1 := fun f a hf _ => I1 f a (by omega)
  have key : ∀ hu : u < 4, wp_X6_post σ1 x (gM g p) (nI h) (nI u) (fun x5 σ6 => (x5 = 0 → xh_k σ6 (gM g p) = 2 ∧ wp_X1_breakByCut σ6 (gM g p) (fun σ9 => xw6 σ9 x ∧ (wp_X6_settle σ9 x (gM g p) (nI h) (fun σ10 => wb_X6_send_28 Q σ10 x)))) ∧ (¬ x5 = 0 → wb_X6_send_28 Q σ6 x)) := by
    intro hu
    have hlt : zLt σ1 (zs_F S 16 p 3) g (gM g p) (0, p, th, asked, 0, 0) := Or.inl ⟨rfl, rfl, by rw [I1 _ _ (by omega)]; exact h71, by rw [Rr]; exact h68, by rw [Rr]; exact h69⟩
    unfold z_send at k
    rw [w_id (S := zs_F S 15 p (z_F S 15 p + 1)) hH hQ, F_comm (k := 15) (k2 := 16)] at k
    have e15 : z_F (zs_F S 16 p 3) 15 p = z_F S 15 p := zF_ne (by omega)
    refine c_post R1 hp hl hh hu hlt (fun z36 σ3 f3 R3 => ⟨fun y => absurd y (by decide), fun _ => ?_⟩) (fun z36 σ3 I3 R3 => ⟨fun _ => ?_, fun y => absurd rfl y⟩)
    · rw [if_pos (show z_F S 36 (4 * h + u) = 0 from z36)] at k
      rw [e15] at R3
      exact k σ3 _ (f1.tr (fun f a hf _ => f3 f a hf)) R3
    · rw [if_neg (show ¬ z_F S 36 (4 * h + u) = 0 from z36)] at k
      rw [e15] at R3
      have hI3 : zI (zs_F S 15 p (z_F S 15 p + 1)) := I_15 hI
      rw [F_comm (k := 16) (k2 := 15)] at R3
      obtain ⟨hI4, h204⟩ := I_unmove (p := p) hI3
      have R3b : RC x σ3 (zs_F (zs_F S 15 p (z_F S 15 p + 1)) 16 p 3) g B := R3
      refine ⟨(R3.2.2.2.1.2.1 p hp).1, ?_⟩
      -- what MOVE took goes back
      have hI3b : ∀ q, q < z_N S 1 → z_F (zs_F (zs_F S 15 p (z_F S 15 p + 1)) 16 p 3) 20 q < 0 ∨ ∃ t, t < z_N S 0 ∧ z_F (zs_F (zs_F S 15 p (z_F S 15 p + 1)) 16 p 3) 20 q = nI t := fun q hq => by
        rw [zF_ne (by omega), zF_ne (by omega)]
        exact (hI.2.2.2.2.2.2.2.2.2.2.1 q hq).imp id (fun z => z.2)
      refine c_break2 R3b hI.1.1 hI3b hp hl (fun σ4 f4 g72 g73 g71 R4 => ⟨R4.1.1, ?_⟩)
      rw [unmove_16] at R4
      have frU := zFr_unmove (p := p) (S := zs_F S 15 p (z_F S 15 p + 1))
      have hHU : z_H (z_unmove (zs_F S 15 p (z_F S 15 p + 1)) p) = z_H S := HQ_unmove.1
      have hQU : z_Q (z_unmove (zs_F S 15 p (z_F S 15 p + 1)) p) = z_Q S := HQ_unmove.2
      refine c_settle2 R4 hI4 ?_ (by rw [hHU]; exact hH) (by rw [hQU]; exact hQ) h204 g72 g73 hh (fun σ5 B5 f5 R5 => k σ5 B5 (f1.tr (zF7.tr (fun f a hf _ => I3 f a (by omega)) (f4.tr f5))) R5)
      have hf3 : zFree (zs_F S 15 p (z_F S 15 p + 1)) p := hf
      exact free_unmove hf3
  unfold wp_X1_destination
  rw [Rr, h68, h69]
  rcases hd with ⟨t, ht, rfl, rfl⟩ | ⟨q, hq, rfl, rfl, rfl⟩
  · refine ⟨fun z => (by cases z), fun a2 z => ?_⟩
    cases z
    have h1 : xh_I σ1 193 (gT g t) = z_F S 1 t := rI R1 1 t (by decide) ht
    obtain ⟨⟨e2, l2⟩, -⟩ := hI.1.2.1 t ht
    rw [h1, e2]
    exact ⟨(R1.2.2.2.1.1 t ht).1, key l2⟩
  · refine ⟨fun _ => ⟨fun z => (by cases z), fun a5 z => ?_⟩, fun a2 z => (by cases z)⟩
    cases z
    have h1 : xh_I σ1 130 (gM g q + 1) = z_F S 10 q := rI R1 10 q (by decide) hq
    obtain ⟨-, ⟨e2, l2⟩, -⟩ := hI.1.2.2.1 q hq
    rw [h1, e2]
    exact ⟨(R1.2.2.2.1.2.1 q hq).2.1, key l2⟩
