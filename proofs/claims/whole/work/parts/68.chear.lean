/-! The class hears -/
/-- the message in hand: of the promise, or of a WHEN -/
def zHb (σ : xS) (S : zS) (g : zG) (B : Nat → List Nat) (hand : Option Nat) (b : Nat) (n : Int32) : Prop := (xh_k σ b = 2 ∧ b < xh_n σ ∧ xh_I σ 71 b = 0 ∧ xh_R σ 69 b = none) ∧ lose S g B b ∧ (∀ p, hand = some p → b = gM g p ∧ p < z_N S 1) ∧ (hand = none → xh_R σ 64 b = none ∧ xh_R σ 70 b = none ∧ xh_I σ 65 b = 2 ∧ xh_I σ 66 b = n ∧ ∀ p, p < z_N S 1 → b ≠ gM g p)
def zLet (S : zS) (hand : Option Nat) (t u : Nat) (n : Int32) : zS := match hand with
  | none => z_sw S (z_hs S t) u n
  | some p => z_sendT S p (z_hs S t) u
def z_hj (S : zS) (p t : Nat) : zS := if z_F S 2 t = 5 ∧ ¬ z_F (z_hold S p t) 8 t < z_F S 3 t then z_free (z_hold S p t) t (z_sumN (z_hold S p t) (z_H (z_hold S p t) t)) else z_hold S p t
/-- what hearing ends with: T is the state that the turn comes to -/
def zOc (x : Nat) (g : zG) (B : Nat → List Nat) (hand : Option Nat) (t b : Nat) (n : Int32) (T : zS) (r : Int32) (σ2 : xS) : Prop := ∃ S2 g2, RC x σ2 S2 g2 B ∧ zHb σ2 S2 g2 B hand b n ∧ zI S2 ∧ t < z_N S2 0 ∧ gT g2 t = gT g t ∧ (∀ p, hand = some p → zFree S2 p ∧ z_F S2 11 p = 0 ∧ z_F S2 16 p = 3) ∧
  ((r = 0 ∧ (∀ p, hand = some p → z_F S2 20 p < 0) ∧ T = z_answer S2 hand t (xh_I σ2 72 b) (xh_I σ2 73 b)) ∨
   (r = 3 ∧ ∃ u, u < z_N S2 0 ∧ xh_R σ2 68 b = some (gT g2 u) ∧ T = zLet S2 hand t u n) ∨
   (r = 1 ∧ ∃ p, hand = some p ∧ z_F S2 20 p < 0 ∧ (z_F S2 2 t = 5 ∨ z_F S2 2 t = 6) ∧ zK S2 ∧ T = z_hj S2 p t))
/-- what comes in -/
def zIn (x : Nat) (σ : xS) (S : zS) (g : zG) (B : Nat → List Nat) (hand : Option Nat) (t b : Nat) (act n : Int32) : Prop := RC x σ S g B ∧ zI S ∧ zHf S hand ∧ t < z_N S 0 ∧ zHb σ S g B hand b n ∧ xh_I σ 65 b = act ∧ xh_I σ 66 b = n ∧ (hand = none → act = 2) ∧ (∀ p, hand = some p → z_F S 17 p = act ∧ z_F S 18 p = n)
theorem Hb_I {σ σ2 : xS} {S S2 : zS} {g : zG} {B : Nat → List Nat} {hand : Option Nat} {b : Nat} {n : Int32} (h : zHb σ S g B hand b n) (hk : xh_k σ2 = xh_k σ) (hn : xh_n σ2 = xh_n σ) (hI : ∀ f, f = 65 ∨ f = 66 ∨ f = 71 → xh_I σ2 f b = xh_I σ f b) (hR : ∀ f, f = 64 ∨ f = 69 ∨ f = 70 → xh_R σ2 f b = xh_R σ f b) (hl : lose S g B b → lose S2 g B b) (hN : z_N S2 1 = z_N S 1) : zHb σ2 S2 g B hand b n := by
  obtain ⟨⟨a1, a2, a3, a4⟩, a5, a6, a7⟩ := h
  refine ⟨⟨by rw [hk]; exact a1, by rw [hn]; exact a2, by rw [hI _ (by omega)]; exact a3, by rw [hR _ (by omega)]; exact a4⟩, hl a5, fun p e => by rw [hN]; exact a6 p e, fun e => ?_⟩
  rw [hR _ (by omega), hR _ (by omega), hI _ (by omega), hI _ (by omega), hN]
  exact a7 e
theorem oc_ans {x : Nat} {σ : xS} {S : zS} {g g0 : zG} {B : Nat → List Nat} {hand : Option Nat} {t b : Nat} {n st v : Int32} {Q : Int32 → xS → Prop} (hR : RC x σ S g B) (hI : zI S) (hf : zHf S hand) (ht : t < z_N S 0) (hb : zHb σ S g B hand b n) (hg : gT g t = gT g0 t) (k : ∀ r σ2, zOc x g0 B hand t b n (z_answer S hand t st v) r σ2 → Q r σ2) : wp_X1_answer σ b st v (fun x1 σ3 => xw6 σ3 x ∧ Q x1 σ3) := by
  refine c_answer hR hb.2.1 (fun σ2 I2 R2e k2 n2 g72 g73 R2 => ⟨R2.1.1, k 0 σ2 ⟨S, g, R2, ?_, hI, ht, hg, fun p e => ⟨(hf p e).1, (hf p e).2.1, (hf p e).2.2.2⟩, Or.inl ⟨rfl, fun p e => (hf p e).2.2.1, by rw [g72, g73]⟩⟩⟩)
  exact Hb_I hb k2 n2 (fun f hf => I2 _ _ (by omega)) (fun f hf => by rw [R2e]) id rfl
theorem k_of {x : Nat} {σ : xS} {S : zS} {g : zG} {B : Nat → List Nat} {t : Nat} (hR : RC x σ S g B) (ht : t < z_N S 0) : xh_k σ (gT g t) = 4 ∧ xh_I σ 198 (gT g t) = z_F S 3 t ∧ xh_I σ 192 (gT g t) = nI t ∧ xh_I σ 193 (gT g t) = z_F S 1 t ∧ xh_I σ 194 (gT g t) = z_F S 2 t := ⟨(hR.2.2.2.1.1 t ht).1, rI hR 3 t (by decide) ht, (hR.2.2.1.1 t ht).2.1, rI hR 1 t (by decide) ht, rI hR 2 t (by decide) ht⟩
theorem in_3 {x : Nat} {σ σ2 : xS} {S : zS} {g : zG} {B : Nat → List Nat} {hand : Option Nat} {t b : Nat} {act n v : Int32} (h : zIn x σ S g B hand t b act n) (e : σ2 = xs_I σ 198 (gT g t) v) : RC x σ2 (zs_F S 3 t v) g B ∧ zI (zs_F S 3 t v) ∧ zHf (zs_F S 3 t v) hand ∧ t < z_N (zs_F S 3 t v) 0 ∧ zHb σ2 (zs_F S 3 t v) g B hand b n := by
  obtain ⟨hR, hI, hf, ht, hb, -⟩ := h
  refine ⟨R_F hR (k := 3) (i := t) e (by decide) ht, I_3 hI, hf, ht, ?_⟩
  exact Hb_I hb (by rw [e]; rfl) (by rw [e]; rfl) (fun f hf => by rw [e, xI2, if_neg (by omega)]) (fun f hf => by rw [e]; rfl) id rfl
theorem c_cell1 {x : Nat} {σ4 : xS} {S : zS} {g : zG} {B : Nat → List Nat} {hand : Option Nat} {t l2 : Nat} {act n : Int32} {Q : Int32 → xS → Prop} (hin : zIn x σ4 S g B hand t l2 act n) (k : ∀ r σ2, zOc x g B hand t l2 n (z_cell1 S hand t act n) r σ2 → Q r σ2) : xh_k σ4 (gT g t) = 4 ∧ (xh_k σ4 l2 = 2 ∧ (((xh_I σ4 65 l2) = 0 → wp_X1_answer σ4 l2 1 (xh_I σ4 198 (gT g t)) (fun x8 σ9 => xw6 σ9 x ∧ (Q x8 σ9))) ∧ (¬ (xh_I σ4 65 l2) = 0 → ((xh_I σ4 65 l2) = 1 → ∀ σ11, σ11 = xs_I σ4 198 (gT g t) (xh_I σ4 66 l2) → (wp_X1_answer σ11 l2 1 (xh_I σ4 198 (gT g t)) (fun x12 σ13 => xw6 σ13 x ∧ (Q x12 σ13)))) ∧ (¬ (xh_I σ4 65 l2) = 1 → ((xh_I σ4 65 l2) = 2 → ∀ σ15, σ15 = xs_I σ4 198 (gT g t) ((xh_I σ4 198 (gT g t)) + (xh_I σ4 66 l2)) → (wp_X1_answer σ15 l2 1 (xh_I σ15 198 (gT g t)) (fun x16 σ17 => xw6 σ17 x ∧ (Q x16 σ17)))) ∧ (¬ (xh_I σ4 65 l2) = 2 → ((xh_I σ4 65 l2) = 3 → ∀ σ19, σ19 = xs_I σ4 198 (gT g t) ((xh_I σ4 198 (gT g t)) - (xh_I σ4 66 l2)) → (wp_X1_answer σ19 l2 1 (xh_I σ19 198 (gT g t)) (fun x20 σ21 => xw6 σ21 x ∧ (Q x20 σ21)))) ∧ (¬ (xh_I σ4 65 l2) = 3 → ((xh_I σ4 65 l2) = 4 → wb_X6_hearAsCell_136 Q σ4 x l2) ∧ (¬ (xh_I σ4 65 l2) = 4 → ((xh_I σ4 65 l2) = 5 → wb_X6_hearAsCell_136 Q σ4 x l2) ∧ (¬ (xh_I σ4 65 l2) = 5 → ((xh_I σ4 65 l2) = 6 → wb_X6_hearAsCell_136 Q σ4 x l2) ∧ (¬ (xh_I σ4 65 l2) = 6 → ((xh_I σ4 65 l2) = 7 → wp_X1_answer σ4 l2 2 (xh_I σ4 192 (gT g t)) (fun x26 σ27 => xw6 σ27 x ∧ (Q x26 σ27))) ∧ (¬ (xh_I σ4 65 l2) = 7 → wb_X6_hearAsCell_136 Q σ4 x l2)))))))))) := by
  obtain ⟨hR, hI, hf, ht, hb, h65, h66, hn, hs⟩ := id hin
  obtain ⟨t1, t2, t3, t4, t5⟩ := k_of hR ht
  have bad : (∀ r σ2, zOc x g B hand t l2 n (z_answer S hand t 3 3) r σ2 → Q r σ2) → wb_X6_hearAsCell_136 Q σ4 x l2 := fun kk => ⟨hb.1.1, oc_ans hR hI hf ht hb rfl kk⟩
  unfold z_cell1 at k
  rw [h65, h66, t2, t3]
  refine ⟨t1, hb.1.1, fun e0 => ?_, fun n0 => ⟨fun e1 => ?_, fun n1 => ⟨fun e2 => ?_, fun n2 => ⟨fun e3 => ?_, fun n3 => ⟨fun e4 => ?_, fun n4 => ⟨fun e5 => ?_, fun n5 => ⟨fun e6 => ?_, fun n6 => ⟨fun e7 => ?_, fun n7 => ?_⟩⟩⟩⟩⟩⟩⟩⟩
  · rw [if_pos e0] at k
    exact oc_ans hR hI hf ht hb rfl k
  · rw [if_neg n0, if_pos e1] at k
    intro σ5 e5
    obtain ⟨a1, a2, a3, a4, a5⟩ := in_3 hin e5
    exact oc_ans a1 a2 a3 a4 a5 rfl k
  · rw [if_neg n0, if_neg n1, if_pos e2] at k
    intro σ5 e5
    obtain ⟨a1, a2, a3, a4, a5⟩ := in_3 hin e5
    rw [show xh_I σ5 198 (gT g t) = z_F S 3 t + n from by rw [e5, xI2, if_pos ⟨rfl, rfl⟩]]
    exact oc_ans a1 a2 a3 a4 a5 rfl k
  · rw [if_neg n0, if_neg n1, if_neg n2, if_pos e3] at k
    intro σ5 e5
    obtain ⟨a1, a2, a3, a4, a5⟩ := in_3 hin e5
    rw [show xh_I σ5 198 (gT g t) = z_F S 3 t - n from by rw [e5, xI2, if_pos ⟨rfl, rfl⟩]]
    exact oc_ans a1 a2 a3 a4 a5 rfl k
  · rw [if_neg n0, if_neg n1, if_neg n2, if_neg n3, if_neg (by rw [e4]; decide)] at k
    exact bad k
  · rw [if_neg n0, if_neg n1, if_neg n2, if_neg n3, if_neg (by rw [e5]; decide)] at k
    exact bad k
  · rw [if_neg n0, if_neg n1, if_neg n2, if_neg n3, if_neg (by rw [e6]; decide)] at k
    exact bad k
  · rw [if_neg n0, if_neg n1, if_neg n2, if_neg n3, if_pos e7] at k
    exact oc_ans hR hI hf ht hb rfl k
  · rw [if_neg n0, if_neg n1, if_neg n2, if_neg n3, if_neg n7] at k
    exact bad k
theorem in_r {x : Nat} {σ σ2 : xS} {S : zS} {g : zG} {B : Nat → List Nat} {hand : Option Nat} {t b : Nat} {act n : Int32} {v : Int64} (h : zIn x σ S g B hand t b act n) (e : σ2 = xs_L σ 393 x v) : zIn x σ2 (zs_r S v) g B hand t b act n := by
  obtain ⟨hR, hI, hf, ht, hb, h65, h66, hn, hs⟩ := h
  refine ⟨R_r hR e, I_r hI, hf, ht, ?_, by rw [e]; exact h65, by rw [e]; exact h66, hn, hs⟩
  exact Hb_I hb (by rw [e]; rfl) (by rw [e]; rfl) (fun f hf => by rw [e]; rfl) (fun f hf => by rw [e]; rfl) id rfl
theorem in_r2 {x : Nat} {σ σ2 : xS} {S : zS} {g : zG} {B : Nat → List Nat} {hand : Option Nat} {t b : Nat} {act n : Int32} {d : Int64} (h : zIn x σ S g B hand t b act n) (e : σ2 = xs_L σ 393 x (xh_L σ 393 x + d)) : zIn x σ2 (zs_r S (z_r S + d)) g B hand t b act n := by
  rw [show xh_L σ 393 x = z_r S from h.1.1.2.2.2.2.2] at e
  exact in_r h e
theorem c_cell {x : Nat} {σ : xS} {S : zS} {g : zG} {B : Nat → List Nat} {hand : Option Nat} {t b : Nat} {act n : Int32} {Q : Int32 → xS → Prop} (hin : zIn x σ S g B hand t b act n) (k : ∀ r σ2, zOc x g B hand t b n (z_cell S hand t act n) r σ2 → Q r σ2) : wp_X6_hearAsCell σ x (gT g t) b Q := by
  unfold wp_X6_hearAsCell
  intro σ4 e4
  unfold z_cell at k
  exact c_cell1 (in_r2 hin e4) k
theorem c_purse1 {x : Nat} {σ34 : xS} {S : zS} {g : zG} {B : Nat → List Nat} {hand : Option Nat} {t l2 : Nat} {act n : Int32} {Q : Int32 → xS → Prop} (hin : zIn x σ34 S g B hand t l2 act n) (k : ∀ r σ2, zOc x g B hand t l2 n (z_purse1 S hand t act n) r σ2 → Q r σ2) : xh_k σ34 l2 = 2 ∧ (((xh_I σ34 65 l2) = 2 → wb_X6_hearAsPurse_32 Q σ34 x (gT g t) l2 (xh_I σ34 65 l2)) ∧ (¬ (xh_I σ34 65 l2) = 2 → ((xh_I σ34 65 l2) = 3 → wb_X6_hearAsPurse_32 Q σ34 x (gT g t) l2 (xh_I σ34 65 l2)) ∧ (¬ (xh_I σ34 65 l2) = 3 → ((xh_I σ34 65 l2) = 4 → wb_X6_hearAsPurse_32 Q σ34 x (gT g t) l2 (xh_I σ34 65 l2)) ∧ (¬ (xh_I σ34 65 l2) = 4 → wb_X6_hearAsPurse_37 Q σ34 x (gT g t) l2 (xh_I σ34 65 l2) 0)))) := by
  obtain ⟨hR, hI, hf, ht, hb, h65, h66, hn, hs⟩ := id hin
  obtain ⟨t1, t2, t3, t4, t5⟩ := k_of hR ht
  have b := hI.1.1
  unfold z_purse1 at k
  have k56 : (act = 1 ∨ ((act = 2 ∨ act = 3 ∨ act = 4) ∧ n < 0)) → wb_X6_hearAsPurse_56 Q σ34 x l2 := by
    intro hc
    rw [if_pos hc] at k
    exact ⟨hb.1.1, oc_ans hR hI hf ht hb rfl k⟩
  have k63 : ¬ (act = 1 ∨ ((act = 2 ∨ act = 3 ∨ act = 4) ∧ n < 0)) → wb_X6_hearAsPurse_63 Q σ34 x (gT g t) l2 act := by
    intro hc
    rw [if_neg hc] at k
    have cell : ¬ act = 4 → ¬ (act = 3 ∧ z_F S 3 t < n) → wb_X6_hearAsPurse_121 Q σ34 x (gT g t) l2 act := by
      intro n4 n3
      rw [if_neg n3, if_neg n4] at k
      exact ⟨fun z => absurd z n4, fun _ => c_cell hin k⟩
    unfold wb_X6_hearAsPurse_63
    refine ⟨fun e4 => ?_, fun n4 => ?_⟩
    · cases hand with
      | none => exact absurd (hn rfl) (by rw [e4]; decide)
      | some p =>
        rw [if_neg (fun z => by rw [e4] at z; exact absurd z.1 (by decide)), if_pos e4] at k
        have kk : ∀ r σ2, zOc x g B (some p) t l2 n (z_move S p t n) r σ2 → Q r σ2 := k
        unfold z_move at kk
        obtain ⟨hbp, hp⟩ := hb.2.2.1 p rfl
        have h17 : z_F S 17 p = 4 := by rw [(hs p rfl).1]; exact e4
        obtain ⟨o, ho, eo⟩ := (hI.1.2.2.1 p hp).2.2.2 h17
        have h67 : xh_R σ34 67 l2 = some (gT g o) := by
          rw [hbp, (hR.2.2.1.2.1 p hp).2.2.2.2.2.2 h17, eo, zO_nI (by omega)]
        obtain ⟨o1, o2, o3, o4, o5⟩ := k_of hR ho
        rw [eo, cl40 (by omega)] at kk
        rw [h67]
        refine ⟨hb.1.1, fun z => (by cases z), fun a23 z => ?_⟩
        cases z
        rw [o5]
        refine ⟨o1, fun e1 => ?_, fun n1 => ?_⟩
        · rw [if_neg (fun z => z e1)] at kk
          have k103 : wb_X6_hearAsPurse_103 Q σ34 x (gT g t) l2 act := by
            unfold wb_X6_hearAsPurse_103
            rw [h66, t2]
            refine ⟨hb.1.1, t1, fun hle => ?_, fun hnl => ?_⟩
            · rw [if_neg (ile_nlt.mp hle)] at kk
              unfold wb_X6_hearAsPurse_121
              refine ⟨fun _ => ⟨t1, hb.1.1, ?_⟩, fun z => absurd e4 z⟩
              rw [h66, t2]
              intro σ4 s4 σ5 s5 σ6 s6 σ7 s7
              have R4 : RC x σ4 (zs_F S 3 t (z_F S 3 t - n)) g B := R_F hR (k := 3) (i := t) s4 (by decide) ht
              rw [hbp] at s5
              have R5 : RC x σ5 (zs_F (zs_F S 3 t (z_F S 3 t - n)) 17 p 2) g B := R_F R4 (k := 17) (i := p) s5 (by decide) hp (fun _ => by decide)
              have r67 : xh_R σ5 67 l2 = some (gT g o) := by rw [s5, s4]; exact h67
              rw [r67] at s6
              have R6 := R_lR R5 hb.2.1 s6 (by omega)
              have s7b : σ7 = xs_R σ6 70 (gM g p) (zO g (nI t)) := by rw [zO_nI (by omega), ← hbp]; exact s7
              have R7 : RC x σ7 (zs_F (zs_F (zs_F S 3 t (z_F S 3 t - n)) 17 p 2) 20 p (nI t)) g B := R_20 R6 hp (by rw [← hbp]; exact hb.2.1) s7b
              refine kk 3 σ7 ⟨_, g, R7, ?_, I_mv hI (hf p rfl).1 (hf p rfl).2.2.2 ht, ht, rfl, fun q e => ?_, Or.inr (Or.inl ⟨rfl, o, ho, ?_, ?_⟩)⟩
              · obtain ⟨⟨a1, a2, a3, a4⟩, a5, a6, a7⟩ := hb
                refine ⟨⟨by rw [s7, s6, s5, s4]; exact a1, by rw [s7, s6, s5, s4]; exact a2, ?_, ?_⟩, a5, a6, fun e => (by cases e)⟩
                · rw [s7, s6, s5]
                  show xh_I (xs_I σ4 65 (gM g p) 2) 71 l2 = 0
                  rw [xI2, if_neg (by omega), s4, xI2, if_neg (by omega)]; exact a3
                · rw [s7, xR2, if_neg (by omega), s6, xR2, if_neg (by omega), s5, s4]; exact a4
              · cases e
                obtain ⟨f1, f2, f3, f4⟩ := hf p rfl
                refine ⟨f1, ?_, ?_⟩
                · rw [zF_ne (by omega), zF_ne (by omega), zF_ne (by omega)]; exact f2
                · rw [zF_ne (by omega), zF_ne (by omega), zF_ne (by omega)]; exact f4
              · rw [s7, xR2, if_neg (by omega), s6, xR2, if_pos ⟨rfl, rfl⟩]
              · rfl
            · rw [if_pos (Classical.byContradiction (fun z => hnl (ile_nlt.mpr z)))] at kk
              exact oc_ans hR hI hf ht hb rfl kk
          unfold wb_X6_hearAsPurse_93
          exact ⟨fun _ => k103, fun _ => ⟨fun _ => k103, fun z => absurd e4 z⟩⟩
        · rw [if_pos n1] at kk
          exact ⟨hb.1.1, oc_ans hR hI hf ht hb rfl kk⟩
    · unfold wb_X6_hearAsPurse_93
      refine ⟨fun e3 => ?_, fun n3 => ⟨fun e4 => absurd e4 n4, fun _ => cell n4 (fun z => n3 z.1)⟩⟩
      unfold wb_X6_hearAsPurse_103
      rw [h66, t2]
      refine ⟨hb.1.1, t1, fun hle => cell n4 (fun z => (ile_nlt.mp hle) z.2), fun hnl => ?_⟩
      rw [if_pos ⟨e3, Classical.byContradiction (fun z => hnl (ile_nlt.mpr z))⟩] at k
      exact oc_ans hR hI hf ht hb rfl k
  have k32 : (act = 2 ∨ act = 3 ∨ act = 4) → wb_X6_hearAsPurse_32 Q σ34 x (gT g t) l2 act := by
    intro h234
    unfold wb_X6_hearAsPurse_32 wb_X6_hearAsPurse_37
    have n1 : ¬ act = 1 := by rcases h234 with z | z | z <;> rw [z] <;> decide
    rw [h66]
    refine ⟨fun z => absurd z n1, fun _ => ⟨fun z => absurd z (by decide), fun _ => ⟨hb.1.1, fun z => k63 (fun y => ?_), fun z => k56 (Or.inr ⟨h234, Classical.byContradiction (fun y => z (ile_nlt.mpr y))⟩)⟩⟩⟩
    rcases y with y | y
    · exact n1 y
    · exact (ile_nlt.mp z) y.2
  rw [h65]
  refine ⟨hb.1.1, fun e => k32 (Or.inl e), fun n2 => ⟨fun e => k32 (Or.inr (Or.inl e)), fun n3 => ⟨fun e => k32 (Or.inr (Or.inr e)), fun n4 => ?_⟩⟩⟩
  unfold wb_X6_hearAsPurse_37
  refine ⟨fun e1 => k56 (Or.inl e1), fun n1 => ⟨fun _ => k63 (fun y => ?_), fun z => absurd rfl z⟩⟩
  rcases y with y | ⟨y | y | y, -⟩
  · exact n1 y
  · exact n2 y
  · exact n3 y
  · exact n4 y
theorem c_purse {x : Nat} {σ : xS} {S : zS} {g : zG} {B : Nat → List Nat} {hand : Option Nat} {t b : Nat} {act n : Int32} {Q : Int32 → xS → Prop} (hin : zIn x σ S g B hand t b act n) (k : ∀ r σ2, zOc x g B hand t b n (z_purse S hand t act n) r σ2 → Q r σ2) : wp_X6_hearAsPurse σ x (gT g t) b Q := by
  unfold wp_X6_hearAsPurse
  intro σ34 e4
  unfold z_purse at k
  exact c_purse1 (in_r2 hin e4) k
theorem zS_ext {S S2 : zS} (h1 : z_F S = z_F S2) (h2 : z_N S = z_N S2) (h3 : z_u S = z_u S2) (h4 : z_r S = z_r S2) (h5 : z_W S = z_W S2) (h6 : z_H S = z_H S2) (h7 : z_Q S = z_Q S2) (h8 : z_D S = z_D S2) : S = S2 := by
  show (z_F S, z_N S, z_u S, z_r S, z_W S, z_H S, z_Q S, z_D S) = _
  rw [h1, h2, h3, h4, h5, h6, h7, h8]; rfl
theorem new_N {S : zS} {h k n g a : Int32} : z_N (z_new S h k n g a) = va_up (z_N S) 0 (z_N S 0 + 1) := rfl
theorem new_u {S : zS} {h k n g a : Int32} : z_u (z_new S h k n g a) = z_u S := rfl
theorem new_r {S : zS} {h k n g a : Int32} : z_r (z_new S h k n g a) = z_r S := rfl
theorem new_W {S : zS} {h k n g a : Int32} : z_W (z_new S h k n g a) = z_W S := rfl
theorem new_H {S : zS} {h k n g a : Int32} : z_H (z_new S h k n g a) = z_H S := rfl
theorem new_Q {S : zS} {h k n g a : Int32} : z_Q (z_new S h k n g a) = z_Q S := rfl
theorem new_D {S : zS} {h k n g a : Int32} : z_D (z_new S h k n g a) = z_D S := rfl
theorem F_N {S : zS} {k i : Nat} {v : Int32} : z_N (zs_F S k i v) = z_N S := rfl
theorem F_u {S : zS} {k i : Nat} {v : Int32} : z_u (zs_F S k i v) = z_u S := rfl
theorem F_r {S : zS} {k i : Nat} {v : Int32} : z_r (zs_F S k i v) = z_r S := rfl
theorem F_W {S : zS} {k i : Nat} {v : Int32} : z_W (zs_F S k i v) = z_W S := rfl
theorem F_H {S : zS} {k i : Nat} {v : Int32} : z_H (zs_F S k i v) = z_H S := rfl
theorem F_Q {S : zS} {k i : Nat} {v : Int32} : z_Q (zs_F S k i v) = z_Q S := rfl
theorem F_D {S : zS} {k i : Nat} {v : Int32} : z_D (zs_F S k i v) = z_D S := rfl
theorem new_N0 {S : zS} {h k n g a : Int32} : z_N (z_new S h k n g a) 0 = z_N S 0 + 1 := rfl
theorem new_N1 {S : zS} {h k n g a : Int32} : z_N (z_new S h k n g a) 1 = z_N S 1 := rfl
theorem new_comm {S : zS} {h k n g a v : Int32} {t : Nat} (ht : t < z_N S 0) : zs_F (z_new S h k n g a) 3 t v = z_new (zs_F S 3 t v) h k n g a := by
  refine zS_ext ?_ (by rw [F_N, new_N, new_N, F_N]) (by rw [F_u, new_u, new_u, F_u]) (by rw [F_r, new_r, new_r, F_r]) (by rw [F_W, new_W, new_W, F_W]) (by rw [F_H, new_H, new_H, F_H]) (by rw [F_Q, new_Q, new_Q, F_Q]) (by rw [F_D, new_D, new_D, F_D])
  funext f j
  rw [zF_eq, zF_new, zF_new, F_N, zF_eq]
  by_cases e : f = 3 ∧ j = t
  · obtain ⟨rfl, rfl⟩ := e
    rw [if_pos ⟨rfl, rfl⟩]
    repeat rw [if_neg (by omega)]
    rw [if_pos ⟨rfl, rfl⟩]
  · rw [if_neg e, if_neg e]
theorem lose_congr {S S2 : zS} {g g2 : zG} {B : Nat → List Nat} {b : Nat} (h : lose S g B b) (hI : zI S) (hD : z_D S2 = z_D S) (hH : z_H S2 = z_H S) (hQ : z_Q S2 = z_Q S) (hN : z_N S2 1 = z_N S 1) (hM : gM g2 = gM g) : lose S2 g2 B b := by
  refine lV_ind (fun z => h (0, 0) lV_0 ?_) (fun w hw z => h (1, w) (lV_1 hw) z) (fun u hu z => ?_) (fun q hq z => h (3, q) (lV_3 (by rw [← hN]; exact hq)) ?_)
  · rw [lL_0, hM, hD] at z; exact z
  · rw [lL_2, hM, hH] at z
    by_cases y : u < z_N S 0
    · exact h (2, u) (lV_2 y) z
    · rw [H_out hI (by omega)] at z
      exact absurd z (by simp)
  · rw [lL_3, hM, hQ] at z; exact z
theorem c_maker1 {x : Nat} {σ4 : xS} {S : zS} {g : zG} {B : Nat → List Nat} {hand : Option Nat} {t l2 : Nat} {act n : Int32} {Q : Int32 → xS → Prop} (hin : zIn x σ4 S g B hand t l2 act n) (k : ∀ r σ2, zOc x g B hand t l2 n (z_maker1 S hand t act n) r σ2 → Q r σ2) : xh_k σ4 l2 = 2 ∧ (((xh_I σ4 65 l2) = 0 → xh_k σ4 (gT g t) = 4 ∧ (wp_X1_answer σ4 l2 1 (xh_I σ4 198 (gT g t)) (fun x27 σ28 => xw6 σ28 x ∧ (Q x27 σ28)))) ∧ (¬ (xh_I σ4 65 l2) = 0 → ((xh_I σ4 65 l2) = 7 → xh_k σ4 (gT g t) = 4 ∧ (wp_X1_answer σ4 l2 2 (xh_I σ4 192 (gT g t)) (fun x24 σ25 => xw6 σ25 x ∧ (Q x24 σ25)))) ∧ (¬ (xh_I σ4 65 l2) = 7 → ((xh_I σ4 65 l2) = 5 → ((xh_I σ4 66 l2) < 0 → wb_X6_hearAsMaker_71 Q σ4 x l2) ∧ (¬ (xh_I σ4 66 l2) < 0 → ((xh_I σ4 66 l2) ≤ 2 → xh_k σ4 (gT g t) = 4 ∧ (wp_X6_addThing σ4 x (xh_I σ4 193 (gT g t)) (xh_I σ4 66 l2) 0 none 0 (fun x12 σ13 => (x12 = (-3) → xh_k σ13 l2 = 2 ∧ wp_X1_answer σ13 l2 3 5 (fun x21 σ22 => xw6 σ22 x ∧ (Q x21 σ22))) ∧ (¬ x12 = (-3) → xh_k σ13 (gT g t) = 4 ∧ (∀ σ16, σ16 = xs_I σ13 198 (gT g t) ((xh_I σ13 198 (gT g t)) + 1) → (xh_k σ16 l2 = 2 ∧ wp_X1_answer σ16 l2 2 x12 (fun x18 σ19 => xw6 σ19 x ∧ (Q x18 σ19)))))))) ∧ (¬ (xh_I σ4 66 l2) ≤ 2 → wb_X6_hearAsMaker_71 Q σ4 x l2))) ∧ (¬ (xh_I σ4 65 l2) = 5 → wb_X6_hearAsMaker_71 Q σ4 x l2)))) := by
  obtain ⟨hR, hI, hf, ht, hb, h65, h66, hn, hs⟩ := id hin
  obtain ⟨t1, t2, t3, t4, t5⟩ := k_of hR ht
  have b := hI.1.1
  unfold z_maker1 at k
  have k71 : ¬ act = 0 → ¬ act = 7 → (¬ act = 5 ∨ n < 0 ∨ 2 < n) → wb_X6_hearAsMaker_71 Q σ4 x l2 := by
    intro n0 n7 hc
    rw [if_neg n0, if_neg n7, if_pos hc] at k
    exact ⟨hb.1.1, oc_ans hR hI hf ht hb rfl k⟩
  rw [h65, h66, t2, t3, t4]
  refine ⟨hb.1.1, fun e0 => ⟨t1, ?_⟩, fun n0 => ⟨fun e7 => ⟨t1, ?_⟩, fun n7 => ⟨fun e5 => ⟨fun hneg => k71 n0 n7 (Or.inr (Or.inl hneg)), fun hnn => ⟨fun hle => ⟨t1, ?_⟩, fun hgt => k71 n0 n7 (Or.inr (Or.inr (Classical.byContradiction (fun z => hgt (ile_nlt.mpr z)))))⟩⟩, fun n5 => k71 n0 n7 (Or.inl n5)⟩⟩⟩
  · rw [if_pos e0] at k
    exact oc_ans hR hI hf ht hb rfl k
  · rw [if_neg n0, if_pos e7] at k
    exact oc_ans hR hI hf ht hb rfl k
  · have hc : ¬ (¬ act = 5 ∨ n < 0 ∨ 2 < n) := fun z => z.elim (fun z => z e5) (fun z => z.elim hnn (ile_nlt.mp hle))
    rw [if_neg n0, if_neg n7, if_neg hc] at k
    refine c_addThing (gg := -9) hR hI (by rw [zO_neg (by decide)]) (Or.inl (by decide)) (fun e40 => ⟨fun _ => ?_, fun z => absurd rfl z⟩) (fun hlt σ13 g2 gT2 gM2 gW2 old R13 => ⟨fun z => ?_, fun _ => ?_⟩)
    · rw [if_pos e40] at k
      exact ⟨hb.1.1, oc_ans hR hI hf ht hb rfl k⟩
    · exfalso
      have : nI (z_N S 0) < 0 := by rw [z]; decide
      exact nneg (by omega) this
    · rw [if_neg (by omega)] at k
      obtain ⟨kd, hkd, ekd⟩ := i_le2 (n := n) (fun z => hc (Or.inr z))
      obtain ⟨⟨hs1, hs2⟩, -⟩ := hI.1.2.1 t ht
      have ht2 : t < z_N (z_new S (z_F S 1 t) n 0 (-9) 0) 0 := by rw [new_N0]; exact Nat.lt_succ_of_lt ht
      obtain ⟨u1, u2, u3, u4, u5⟩ := k_of R13 ht2
      rw [gT2 t ht] at u1 u2
      have e3 : z_F (z_new S (z_F S 1 t) n 0 (-9) 0) 3 t = z_F S 3 t := by
        rw [zF_new]
        repeat rw [if_neg (by omega)]
      rw [u2, e3]
      refine ⟨u1, fun σ16 e16 => ?_⟩
      have e16b : σ16 = xs_I σ13 (kf 3) (ka x g2 3 t) (z_F S 3 t + 1) := by
        show σ16 = xs_I σ13 198 (gT g2 t) _
        rw [gT2 t ht]; exact e16
      have R16 : RC x σ16 (zs_F (z_new S (z_F S 1 t) n 0 (-9) 0) 3 t (z_F S 3 t + 1)) g2 B := R_F R13 e16b (by decide) ht2
      rw [new_comm ht] at R16
      have hI16 : zI (z_new (zs_F S 3 t (z_F S 3 t + 1)) (z_F S 1 t) n 0 (-9) 0) := by
        have h3 : zI (zs_F S 3 t (z_F S 3 t + 1)) := I_3 hI
        have h4 := I_new (h := z_hs S t) (k := kd) (n := 0) (a := 0) (g := none) h3 hlt hs2 (by omega) (fun z => by omega) (fun _ => rfl)
        rw [← hs1, ← ekd] at h4
        exact h4
      have hf3 : zHf (zs_F S 3 t (z_F S 3 t + 1)) hand := hf
      have hf16 := zHf_new (h := z_F S 1 t) (k := n) (n := 0) (g := -9) (a := 0) hf3
      have nN : z_N (z_new (zs_F S 3 t (z_F S 3 t + 1)) (z_F S 1 t) n 0 (-9) 0) 1 = z_N S 1 := by rw [new_N1, F_N]
      have lo16 : lose (z_new (zs_F S 3 t (z_F S 3 t + 1)) (z_F S 1 t) n 0 (-9) 0) g2 B l2 := lose_congr hb.2.1 hI (by rw [new_D, F_D]) (by rw [new_H, F_H]) (by rw [new_Q, F_Q]) nN gM2
      have ht3 : t < z_N (z_new (zs_F S 3 t (z_F S 3 t + 1)) (z_F S 1 t) n 0 (-9) 0) 0 := by rw [new_N0, F_N]; exact Nat.lt_succ_of_lt ht
      generalize z_new (zs_F S 3 t (z_F S 3 t + 1)) (z_F S 1 t) n 0 (-9) 0 = S16 at R16 hI16 hf16 nN lo16 ht3 k
      have hb16 : zHb σ16 S16 g2 B hand l2 n := by
        obtain ⟨⟨a1, a2, a3, a4⟩, a5, a6, a7⟩ := hb
        obtain ⟨o1, o2, o3, o4⟩ := old
        refine ⟨⟨by rw [e16]; show xh_k σ13 l2 = 2; rw [o2 _ a2]; exact a1, by rw [e16]; show l2 < xh_n σ13; omega, by rw [e16, xI2, if_neg (by omega), o3 _ _ a2 (by omega)]; exact a3, by rw [e16]; show xh_R σ13 69 l2 = none; rw [o4 _ _ a2]; exact a4⟩, lo16, fun p e => by rw [gM2, nN]; exact a6 p e, fun e => ?_⟩
        obtain ⟨c1, c2, c3, c4, c5⟩ := a7 e
        refine ⟨by rw [e16]; show xh_R σ13 64 l2 = none; rw [o4 _ _ a2]; exact c1, by rw [e16]; show xh_R σ13 70 l2 = none; rw [o4 _ _ a2]; exact c2, by rw [e16, xI2, if_neg (by omega), o3 _ _ a2 (by omega)]; exact c3, by rw [e16, xI2, if_neg (by omega), o3 _ _ a2 (by omega)]; exact c4, ?_⟩
        rw [gM2, nN]; exact c5
      exact ⟨hb16.1.1, oc_ans R16 hI16 hf16 ht3 hb16 (gT2 t ht) k⟩
theorem c_maker {x : Nat} {σ : xS} {S : zS} {g : zG} {B : Nat → List Nat} {hand : Option Nat} {t b : Nat} {act n : Int32} {Q : Int32 → xS → Prop} (hin : zIn x σ S g B hand t b act n) (k : ∀ r σ2, zOc x g B hand t b n (z_maker S hand t act n) r σ2 → Q r σ2) : wp_X6_hearAsMaker σ x (gT g t) b Q := by
  unfold wp_X6_hearAsMaker
  intro σ4 e4
  unfold z_maker at k
  exact c_maker1 (in_r2 hin e4) k
theorem c_guard1 {x : Nat} {σ1 : xS} {S : zS} {g : zG} {B : Nat → List Nat} {hand : Option Nat} {t l2 : Nat} {act n : Int32} {Q : Int32 → xS → Prop} (hin : zIn x σ1 S g B hand t l2 act n) (hk : z_F S 2 t = 3 ∨ z_F S 2 t = 4) (k : ∀ r σ2, zOc x g B hand t l2 n (z_guard1 S hand t act n) r σ2 → Q r σ2) : xh_k σ1 (gT g t) = 4 ∧ (((xh_I σ1 199 (gT g t)) = 0 → xh_k σ1 l2 = 2 ∧ (((((xh_I σ1 196 (gT g t)) >>> ((xh_I σ1 65 l2) &&& 31)) &&& 1) = 0 → wp_X1_answer σ1 l2 3 3 (fun x7 σ8 => xw6 σ8 x ∧ (Q x7 σ8))) ∧ (¬ (((xh_I σ1 196 (gT g t)) >>> ((xh_I σ1 65 l2) &&& 31)) &&& 1) = 0 → ∀ σ6, σ6 = xs_R σ1 68 l2 (xh_R σ1 195 (gT g t)) → (Q 3 σ6)))) ∧ (¬ (xh_I σ1 199 (gT g t)) = 0 → xh_k σ1 l2 = 2 ∧ wp_X1_answer σ1 l2 3 4 (fun x10 σ11 => xw6 σ11 x ∧ (Q x10 σ11)))) := by
  obtain ⟨hR, hI, hf, ht, hb, h65, h66, hn, hs⟩ := id hin
  have b := hI.1.1
  have t1 := (hR.2.2.2.1.1 t ht).1
  have h6 : xh_I σ1 199 (gT g t) = z_F S 6 t := rI hR 6 t (by decide) ht
  have h5 : xh_I σ1 196 (gT g t) = z_F S 5 t := rI hR 5 t (by decide) ht
  obtain ⟨u, hu, eu⟩ := (hI.1.2.1 t ht).2.2.1 hk
  have h195 : xh_R σ1 195 (gT g t) = some (gT g u) := by
    rw [(hR.2.2.1.1 t ht).2.2.1, eu, zO_nI (by omega)]
  unfold z_guard1 at k
  rw [h6, h5, h65, h195]
  refine ⟨t1, fun e0 => ⟨hb.1.1, fun ea => ?_, fun na => ?_⟩, fun n0 => ⟨hb.1.1, ?_⟩⟩
  · rw [if_neg (fun z => z e0), if_pos ea] at k
    exact oc_ans hR hI hf ht hb rfl k
  · rw [if_neg (fun z => z e0), if_neg na, eu, cl40 (by omega)] at k
    intro σ6 s6
    have R6 := R_lR hR hb.2.1 s6 (by omega)
    refine k 3 σ6 ⟨S, g, R6, ?_, hI, ht, rfl, fun p e => ⟨(hf p e).1, (hf p e).2.1, (hf p e).2.2.2⟩, Or.inr (Or.inl ⟨rfl, u, hu, by rw [s6, xR2, if_pos ⟨rfl, rfl⟩], ?_⟩)⟩
    · exact Hb_I hb (by rw [s6]; rfl) (by rw [s6]; rfl) (fun f hf => by rw [s6]; rfl) (fun f hf => by rw [s6, xR2, if_neg (by omega)]) id rfl
    · cases hand with
      | none => rfl
      | some p => rfl
  · rw [if_pos n0] at k
    exact oc_ans hR hI hf ht hb rfl k
theorem c_guard {x : Nat} {σ : xS} {S : zS} {g : zG} {B : Nat → List Nat} {hand : Option Nat} {t b : Nat} {act n : Int32} {Q : Int32 → xS → Prop} (hin : zIn x σ S g B hand t b act n) (hk : z_F S 2 t = 3 ∨ z_F S 2 t = 4) (k : ∀ r σ2, zOc x g B hand t b n (z_guard S hand t act n) r σ2 → Q r σ2) : wp_X6_hearAsGuard σ x (gT g t) b Q := by
  unfold wp_X6_hearAsGuard
  intro σ4 e4
  unfold z_guard at k
  exact c_guard1 (in_r2 hin e4) (r_k2 hk) k
theorem c_switch1 {x : Nat} {σ1 : xS} {S : zS} {g : zG} {B : Nat → List Nat} {hand : Option Nat} {t l2 : Nat} {act n : Int32} {Q : Int32 → xS → Prop} (hin : zIn x σ1 S g B hand t l2 act n) (hk : z_F S 2 t = 3 ∨ z_F S 2 t = 4) (k : ∀ r σ2, zOc x g B hand t l2 n (z_switch1 S hand t act n) r σ2 → Q r σ2) : xh_k σ1 (gT g t) = 4 ∧ (((xh_I σ1 200 (gT g t)) = 0 → wp_X6_hearAsGuard σ1 x (gT g t) l2 (fun x4 σ5 => wb_X6_hearAsSwitch_34 Q σ5 x x4)) ∧ (¬ (xh_I σ1 200 (gT g t)) = 0 → xh_k σ1 l2 = 2 ∧ wp_X1_answer σ1 l2 3 4 (fun x7 σ8 => xw6 σ8 x ∧ (wb_X6_hearAsSwitch_34 Q σ8 x x7)))) := by
  obtain ⟨hR, hI, hf, ht, hb, h65, h66, hn, hs⟩ := id hin
  have t1 := (hR.2.2.2.1.1 t ht).1
  have h7 : xh_I σ1 200 (gT g t) = z_F S 7 t := rI hR 7 t (by decide) ht
  unfold z_switch1 at k
  rw [h7]
  refine ⟨t1, fun e0 => ?_, fun n0 => ⟨hb.1.1, ?_⟩⟩
  · rw [if_neg (fun z => z e0)] at k
    exact c_guard hin hk k
  · rw [if_pos n0] at k
    exact oc_ans hR hI hf ht hb rfl k
theorem c_switch {x : Nat} {σ : xS} {S : zS} {g : zG} {B : Nat → List Nat} {hand : Option Nat} {t b : Nat} {act n : Int32} {Q : Int32 → xS → Prop} (hin : zIn x σ S g B hand t b act n) (hk : z_F S 2 t = 3 ∨ z_F S 2 t = 4) (k : ∀ r σ2, zOc x g B hand t b n (z_switch S hand t act n) r σ2 → Q r σ2) : wp_X6_hearAsSwitch σ x (gT g t) b Q := by
  unfold wp_X6_hearAsSwitch
  intro σ4 e4
  unfold z_switch at k
  exact c_switch1 (in_r2 hin e4) (r_k2 hk) k
theorem c_joiner1 {x : Nat} {σ1 : xS} {S : zS} {g : zG} {B : Nat → List Nat} {hand : Option Nat} {t l2 : Nat} {act n : Int32} {Q : Int32 → xS → Prop} (hin : zIn x σ1 S g B hand t l2 act n) (hK : zK S) (hk : z_F S 2 t = 5 ∨ (z_F S 2 t = 6 ∧ ¬ act = 6)) (k : ∀ r σ2, zOc x g B hand t l2 n (z_joiner1 S hand t act) r σ2 → Q r σ2) : xh_k σ1 l2 = 2 ∧ (((xh_I σ1 65 l2) = 0 → xh_k σ1 (gT g t) = 4 ∧ ∃ r5, xh_R σ1 197 (gT g t) = some r5 ∧ (xh_k σ1 r5 = 1 ∧ (wp_X1_answer σ1 l2 1 (xh_I σ1 2 r5) (fun x8 σ9 => xw6 σ9 x ∧ (Q x8 σ9))))) ∧ (¬ (xh_I σ1 65 l2) = 0 → ((xh_I σ1 65 l2) = 6 → Q 1 σ1) ∧ (¬ (xh_I σ1 65 l2) = 6 → ((xh_I σ1 65 l2) = 7 → xh_k σ1 (gT g t) = 4 ∧ (wp_X1_answer σ1 l2 2 (xh_I σ1 192 (gT g t)) (fun x13 σ14 => xw6 σ14 x ∧ (Q x13 σ14)))) ∧ (¬ (xh_I σ1 65 l2) = 7 → wp_X1_answer σ1 l2 3 3 (fun x15 σ16 => xw6 σ16 x ∧ (Q x15 σ16)))))) := by
  obtain ⟨hR, hI, hf, ht, hb, h65, h66, hn, hs⟩ := id hin
  obtain ⟨t1, t2, t3, t4, t5⟩ := k_of hR ht
  have hsz : xh_I σ1 2 (gT g t + 1) = z_F S 8 t := by
    have := (hR.2.2.2.2.1.1 (2, t) (lV_2 ht)).2.2.2.1
    rw [lL_2, List.length_map] at this
    rw [hK t ht]; exact this
  unfold z_joiner1 at k
  rw [h65, t3]
  refine ⟨hb.1.1, fun e0 => ⟨t1, gT g t + 1, (hR.2.2.1.1 t ht).2.2.2, (hR.2.2.2.1.1 t ht).2.1, ?_⟩, fun n0 => ⟨fun e6 => ?_, fun n6 => ⟨fun e7 => ⟨t1, ?_⟩, fun n7 => ?_⟩⟩⟩
  · rw [if_neg (by rw [e0]; decide), if_pos e0] at k
    rw [hsz]
    exact oc_ans hR hI hf ht hb rfl k
  · rw [if_pos e6] at k
    cases hand with
    | none => exact absurd (hn rfl) (by rw [e6]; decide)
    | some p =>
      have k5 : z_F S 2 t = 5 := by
        rcases hk with z | z
        · exact z
        · exact absurd e6 z.2
      refine k 1 σ1 ⟨S, g, hR, hb, hI, ht, rfl, fun q e => ⟨(hf q e).1, (hf q e).2.1, (hf q e).2.2.2⟩, Or.inr (Or.inr ⟨rfl, p, rfl, (hf p rfl).2.2.1, Or.inl k5, hK, ?_⟩)⟩
      show (if z_F (z_hold S p t) 8 t < z_F S 3 t then z_hold S p t else z_free (z_hold S p t) t (z_sumN (z_hold S p t) (z_H (z_hold S p t) t))) = z_hj S p t
      unfold z_hj
      by_cases z : z_F (z_hold S p t) 8 t < z_F S 3 t
      · rw [if_pos z, if_neg (fun y => y.2 z)]
      · rw [if_neg z, if_pos ⟨k5, z⟩]
  · rw [if_neg n6, if_neg n0, if_pos e7] at k
    exact oc_ans hR hI hf ht hb rfl k
  · rw [if_neg n6, if_neg n0, if_neg n7] at k
    exact oc_ans hR hI hf ht hb rfl k
theorem r_K {S : zS} {r : Int64} (h : zK S) : zK (zs_r S r) := h
theorem r_k5 {S : zS} {r : Int64} {t : Nat} {act : Int32} (h : z_F S 2 t = 5 ∨ (z_F S 2 t = 6 ∧ ¬ act = 6)) : z_F (zs_r S r) 2 t = 5 ∨ (z_F (zs_r S r) 2 t = 6 ∧ ¬ act = 6) := h
theorem r_k6 {S : zS} {r : Int64} {t : Nat} (h : z_F S 2 t = 6) : z_F (zs_r S r) 2 t = 6 := h
theorem c_joiner {x : Nat} {σ : xS} {S : zS} {g : zG} {B : Nat → List Nat} {hand : Option Nat} {t b : Nat} {act n : Int32} {Q : Int32 → xS → Prop} (hin : zIn x σ S g B hand t b act n) (hK : zK S) (hk : z_F S 2 t = 5 ∨ (z_F S 2 t = 6 ∧ ¬ act = 6)) (k : ∀ r σ2, zOc x g B hand t b n (z_joiner S hand t act) r σ2 → Q r σ2) : wp_X6_hearAsJoiner σ x (gT g t) b Q := by
  unfold wp_X6_hearAsJoiner
  intro σ4 e4
  unfold z_joiner at k
  exact c_joiner1 (in_r2 hin e4) (r_K hK) (r_k5 hk) k
theorem c_sleeper1 {x : Nat} {σ1 : xS} {S : zS} {g : zG} {B : Nat → List Nat} {hand : Option Nat} {t l2 : Nat} {act n : Int32} {Q : Int32 → xS → Prop} (hin : zIn x σ1 S g B hand t l2 act n) (hK : zK S) (hk : z_F S 2 t = 6) (k : ∀ r σ2, zOc x g B hand t l2 n (z_sleeper1 S hand t act) r σ2 → Q r σ2) : xh_k σ1 l2 = 2 ∧ (((xh_I σ1 65 l2) = 6 → wb_X6_hearAsSleeper_31 Q σ1 x 1) ∧ (¬ (xh_I σ1 65 l2) = 6 → wp_X6_hearAsJoiner σ1 x (gT g t) l2 (fun x4 σ5 => wb_X6_hearAsSleeper_31 Q σ5 x x4))) := by
  obtain ⟨hR, hI, hf, ht, hb, h65, h66, hn, hs⟩ := id hin
  unfold z_sleeper1 at k
  rw [h65]
  refine ⟨hb.1.1, fun e6 => ?_, fun n6 => ?_⟩
  · rw [if_pos e6] at k
    cases hand with
    | none => exact absurd (hn rfl) (by rw [e6]; decide)
    | some p =>
      refine k 1 σ1 ⟨S, g, hR, hb, hI, ht, rfl, fun q e => ⟨(hf q e).1, (hf q e).2.1, (hf q e).2.2.2⟩, Or.inr (Or.inr ⟨rfl, p, rfl, (hf p rfl).2.2.1, Or.inr hk, hK, ?_⟩)⟩
      show z_hold S p t = z_hj S p t
      unfold z_hj
      rw [if_neg (fun y => by rw [hk] at y; exact absurd y.1 (by decide))]
  · rw [if_neg n6] at k
    exact c_joiner hin hK (Or.inr ⟨hk, n6⟩) k
theorem c_sleeper {x : Nat} {σ : xS} {S : zS} {g : zG} {B : Nat → List Nat} {hand : Option Nat} {t b : Nat} {act n : Int32} {Q : Int32 → xS → Prop} (hin : zIn x σ S g B hand t b act n) (hK : zK S) (hk : z_F S 2 t = 6) (k : ∀ r σ2, zOc x g B hand t b n (z_sleeper S hand t act) r σ2 → Q r σ2) : wp_X6_hearAsSleeper σ x (gT g t) b Q := by
  unfold wp_X6_hearAsSleeper
  intro σ4 e4
  unfold z_sleeper at k
  exact c_sleeper1 (in_r2 hin e4) (r_K hK) (r_k6 hk) k
theorem c_hear {x : Nat} {σ : xS} {S : zS} {g : zG} {B : Nat → List Nat} {hand : Option Nat} {t b : Nat} {act n : Int32} {Q : Int32 → xS → Prop} (hin : zIn x σ S g B hand t b act n) (hK : zK S) (k : ∀ r σ2, zOc x g B hand t b n (z_hear1 S hand t act n) r σ2 → Q r σ2) : wp_X6_hear σ x (gT g t) b Q := by
  obtain ⟨hR, hI, hf, ht, hb, h65, h66, hn, hs⟩ := id hin
  obtain ⟨t1, t2, t3, t4, t5⟩ := k_of hR ht
  obtain ⟨-, ⟨kd, hkd, ekd⟩, -⟩ := hI.1.2.1 t ht
  unfold wp_X6_hear
  rw [t5]
  unfold z_hear1 at k
  refine ⟨t1, fun e1 => ?_, fun n1 => ⟨fun e2 => ?_, fun n2 => ⟨fun e3 => ?_, fun n3 => ⟨fun e4 => ?_, fun n4 => ⟨fun e5 => ?_, fun n5 => ⟨fun e6 => ?_, fun n6 => ?_⟩⟩⟩⟩⟩⟩
  · rw [if_neg (by rw [e1]; decide), if_pos e1] at k
    exact c_purse hin k
  · rw [if_neg (by rw [e2]; decide), if_neg (by rw [e2]; decide), if_pos e2] at k
    exact c_maker hin k
  · rw [if_neg (by rw [e3]; decide), if_neg (by rw [e3]; decide), if_neg (by rw [e3]; decide), if_pos e3] at k
    exact c_guard hin (Or.inl e3) k
  · rw [if_neg (by rw [e4]; decide), if_neg (by rw [e4]; decide), if_neg (by rw [e4]; decide), if_neg (by rw [e4]; decide), if_pos e4] at k
    exact c_switch hin (Or.inr e4) k
  · rw [if_neg (by rw [e5]; decide), if_neg (by rw [e5]; decide), if_neg (by rw [e5]; decide), if_neg (by rw [e5]; decide), if_neg (by rw [e5]; decide), if_pos e5] at k
    exact c_joiner hin hK (Or.inl e5) k
  · rw [if_neg (by rw [e6]; decide), if_neg (by rw [e6]; decide), if_neg (by rw [e6]; decide), if_neg (by rw [e6]; decide), if_neg (by rw [e6]; decide), if_neg (by rw [e6]; decide)] at k
    exact c_sleeper hin hK e6 k
  · by_cases e0 : z_F S 2 t = 0
    · rw [if_pos e0] at k
      exact c_cell hin k
    · exact absurd (kind_6 hI ht e0 n1 n2 n3 n4 n5) n6
