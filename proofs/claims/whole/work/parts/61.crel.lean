/-! The class's relation to a state -/
def lA (x : Nat) (g : zG) (j : Nat × Nat) : Nat := if j.1 = 0 then x + 5 else if j.1 = 1 then x + 7 + 2 * j.2 else if j.1 = 2 then gT g j.2 + 1 else gM g j.2 + 2
def lV (S : zS) (j : Nat × Nat) : Prop := (j.1 = 0 ∧ j.2 = 0) ∨ (j.1 = 1 ∧ j.2 < 16) ∨ (j.1 = 2 ∧ j.2 < z_N S 0) ∨ (j.1 = 3 ∧ j.2 < z_N S 1)
def lL (S : zS) (g : zG) (B : Nat → List Nat) (j : Nat × Nat) : List Nat := if j.1 = 0 then (z_D S).map (fun d => gM g d.1) else if j.1 = 1 then B j.2 else if j.1 = 2 then (z_H S j.2).map (gM g) else (z_Q S j.2).map (gM g)
def zF2 (P : Nat → zL → Prop) : List Nat → List zL → Prop
  | [], [] => True
  | b :: B, l :: ls => P b l ∧ zF2 P B ls
  | [], _ :: _ => False
  | _ :: _, [] => False
theorem F2_snoc {P : Nat → zL → Prop} {b : Nat} {l : zL} : ∀ (B : List Nat) (L : List zL), zF2 P B L → P b l → zF2 P (B ++ [b]) (L ++ [l]) := by
  intro B
  induction B with
  | nil =>
    intro L h hb
    cases L with
    | nil => exact ⟨hb, trivial⟩
    | cons a L => exact absurd h id
  | cons c B ih =>
    intro L h hb
    cases L with
    | nil => exact absurd h id
    | cons a L => exact ⟨h.1, ih L h.2 hb⟩
theorem F2_mono {P P2 : Nat → zL → Prop} : ∀ (B : List Nat) (L : List zL), (∀ b ∈ B, ∀ l ∈ L, P b l → P2 b l) → zF2 P B L → zF2 P2 B L := by
  intro B
  induction B with
  | nil =>
    intro L _ h
    cases L with
    | nil => trivial
    | cons a L => exact absurd h id
  | cons c B ih =>
    intro L hm h
    cases L with
    | nil => exact absurd h id
    | cons a L => exact ⟨hm c List.mem_cons_self a List.mem_cons_self h.1, ih L (fun b hb l hl => hm b (List.mem_cons_of_mem _ hb) l (List.mem_cons_of_mem _ hl)) h.2⟩
theorem F2_len {P : Nat → zL → Prop} : ∀ (B : List Nat) (L : List zL), zF2 P B L → B.length = L.length := by
  intro B
  induction B with
  | nil =>
    intro L h
    cases L with
    | nil => rfl
    | cons a L => exact absurd h id
  | cons c B ih =>
    intro L h
    cases L with
    | nil => exact absurd h id
    | cons a L => rw [List.length_cons, List.length_cons, ih L h.2]
theorem F2_get {P : Nat → zL → Prop} : ∀ (B : List Nat) (L : List zL) (i : Nat), zF2 P B L → (B[i]? = none ∧ L[i]? = none) ∨ ∃ b l, B[i]? = some b ∧ L[i]? = some l ∧ P b l := by
  intro B
  induction B with
  | nil =>
    intro L i h
    cases L with
    | nil => exact Or.inl ⟨by simp, by simp⟩
    | cons a L => exact absurd h id
  | cons c B ih =>
    intro L i h
    cases L with
    | nil => exact absurd h id
    | cons a L =>
      cases i with
      | zero => exact Or.inr ⟨c, a, rfl, rfl, h.1⟩
      | succ i => simpa using ih L i h.2
/-- who a message at b on a wire is -/
def zLt (σ : xS) (S : zS) (g : zG) (b : Nat) (l : zL) : Prop :=
  (l.1 = 0 ∧ b = gM g l.2.1 ∧ xh_I σ 71 b = 0 ∧ xh_R σ 68 b = zOT g l.2.2.1 ∧ xh_R σ 69 b = zOP g l.2.2.2.1) ∨
  ((l.1 = 1 ∨ l.1 = 3) ∧ b = gM g l.2.1 ∧ xh_I σ 71 b = 1 ∧ xh_I σ 72 b = l.2.2.2.2.1 ∧ xh_I σ 73 b = l.2.2.2.2.2) ∨
  (l.1 = 2 ∧ (xh_R σ 64 b = none ∧ xh_I σ 65 b = 2 ∧ xh_I σ 66 b = l.2.2.2.2.1 ∧ xh_R σ 70 b = none) ∧ (∀ p, p < z_N S 1 → b ≠ gM g p) ∧ xh_I σ 71 b = 0 ∧ xh_R σ 68 b = zOT g l.2.2.1 ∧ xh_R σ 69 b = none)
def zCc (σ : xS) (S : zS) (g : zG) (B : Nat → List Nat) : Prop :=
  (∀ w, w < 16 → zF2 (zLt σ S g) (B w) (z_W S w)) ∧ (∀ d ∈ z_D S, xh_I σ 71 (gM g d.1) = 1 ∧ xh_I σ 72 (gM g d.1) = d.2.1 ∧ xh_I σ 73 (gM g d.1) = d.2.2) ∧ (∀ q p, q < z_N S 1 → p ∈ z_Q S q → xh_I σ 71 (gM g p) = 0)
def RC (x : Nat) (σ : xS) (S : zS) (g : zG) (B : Nat → List Nat) : Prop := zC1 x σ S ∧ zC2 x σ S g ∧ zC3 x σ S g ∧ zC4 x σ S g ∧ zLs σ (lA x g) (lV S) (lL S g B) ∧ zCc σ S g B
/-- in no line -/
def lose (S : zS) (g : zG) (B : Nat → List Nat) (b : Nat) : Prop := ∀ j, lV S j → b ∉ lL S g B j
-- reading
theorem rI {x : Nat} {σ : xS} {S : zS} {g : zG} {B : Nat → List Nat} (h : RC x σ S g B) (k i : Nat) (hk : zck k = true := by decide) (hi : i < kb S k := by assumption) : xh_I σ (kf k) (ka x g k i) = z_F S k i := h.2.1 k i hk hi
-- of the state, only some of its rows are looked at
theorem RC_S {x : Nat} {σ : xS} {S S2 : zS} {g : zG} {B : Nat → List Nat} (h : RC x σ S g B) (hF : ∀ k, ¬ k = 8 → ¬ k = 40 → z_F S2 k = z_F S k) (hN : ∀ i, i < 3 → z_N S2 i = z_N S i) (hu : z_u S2 = z_u S) (hr : z_r S2 = z_r S) (hW : z_W S2 = z_W S) (hH : z_H S2 = z_H S) (hQ : z_Q S2 = z_Q S) (hD : z_D S2 = z_D S) : RC x σ S2 g B := by
  obtain ⟨c1, c2, c3, c4, c5, c6⟩ := h
  have n0 := hN 0 (by omega)
  have n1 := hN 1 (by omega)
  have n2 := hN 2 (by omega)
  have hps : z_ps S2 = z_ps S := ps_congr n2 (fun w => by rw [hF 26 (by omega) (by omega)])
  refine ⟨?_, fun k i hk hi => ?_, ?_, ?_, ?_, ?_⟩
  · unfold zC1 at c1 ⊢
    rw [n0, n1, n2, hu, hr]; exact c1
  · have hk8 : ¬ k = 8 ∧ ¬ k = 40 := by
      constructor <;> (intro z; subst z; exact absurd hk (by decide))
    rw [hF k hk8.1 hk8.2]
    refine c2 k i hk ?_
    unfold kb at hi ⊢
    rw [n0, n1, n2] at hi; exact hi
  · unfold zC3 at c3 ⊢
    rw [n0, n1, n2, hF 4 (by omega) (by omega), hF 20 (by omega) (by omega), hF 17 (by omega) (by omega), hF 19 (by omega) (by omega), hF 23 (by omega) (by omega), hF 25 (by omega) (by omega)]
    exact c3
  · unfold zC4 z_used at c4 ⊢
    rw [n0, n1, n2, hps]; exact c4
  · refine zLs_congr c5 (fun j hj => ?_) (fun _ _ => rfl) (fun j _ => ?_)
    · unfold lV at hj ⊢
      rw [n0, n1] at hj; exact hj
    · unfold lL; rw [hD, hH, hQ]
  · unfold zCc at c6 ⊢
    have e : zLt σ S2 g = zLt σ S g := by
      funext b l
      unfold zLt; rw [n1]
    rw [e, hW, hD, hQ, n1]; exact c6
/-- a number is stored -/
theorem R_F {x : Nat} {σ σ2 : xS} {S : zS} {g : zG} {B : Nat → List Nat} {k i : Nat} {v : Int32} (h : RC x σ S g B) (e : σ2 = xs_I σ (kf k) (ka x g k i) v) (hk : zck k = true := by decide) (hi : i < kb S k := by assumption) (hv : k = 17 → ¬ v = 4 := by intro z; omega) : RC x σ2 (zs_F S k i v) g B := by
  obtain ⟨c1, c2, c3, c4, c5, c6⟩ := h
  obtain ⟨q1, q2, q3, q4, q5, q6, q7⟩ := kf_rng hk
  have hkne : ¬ k = 4 ∧ ¬ k = 20 ∧ ¬ k = 19 ∧ ¬ k = 23 ∧ ¬ k = 25 ∧ ¬ k = 26 := by
    refine ⟨?_, ?_, ?_, ?_, ?_, ?_⟩ <;> (intro z; subst z; exact absurd hk (by decide))
  have hI : ∀ f a, ¬ f = kf k → xh_I σ2 f a = xh_I σ f a := fun f a z => by rw [e, xI2, if_neg (fun y => z y.1)]
  have hR : xh_R σ2 = xh_R σ := by rw [e]; rfl
  have hK : xh_k σ2 = xh_k σ := by rw [e]; rfl
  have hn : xh_n σ2 = xh_n σ := by rw [e]; rfl
  have hm : xh_m σ2 = xh_m σ := by rw [e]; rfl
  have hq : xh_q σ2 = xh_q σ := by rw [e]; rfl
  have hF : ∀ k2, ¬ k2 = k → z_F (zs_F S k i v) k2 = z_F S k2 := fun k2 z => funext (fun _ => zF_ne z)
  refine ⟨?_, fun k2 j hk2 hj => ?_, ?_, ?_, ?_, ?_⟩
  · obtain ⟨a1, a2, a3, a4, a5, a6⟩ := c1
    refine ⟨by rw [e]; exact a1, by rw [hI _ _ (by omega)]; exact a2, by rw [hI _ _ (by omega)]; exact a3, by rw [hI _ _ (by omega)]; exact a4, by rw [hI _ _ (by omega)]; exact a5, by rw [e]; exact a6⟩
  · have hj2 : j < kb S k2 := hj
    rw [e, xI2, zF_eq]
    by_cases z : k2 = k
    · subst z
      by_cases y : j = i
      · subst y; simp
      · have : ¬ ka x g k2 j = ka x g k2 i := by
          intro w
          apply y
          unfold ka at w
          unfold kb at hj2 hi
          obtain ⟨d1, d2, d3, d4, d5, d6, d7, d8, d9⟩ := c4
          by_cases z1 : k2 ≤ 7
          · rw [if_pos z1] at hj2 hi
            rw [if_pos z1, if_pos z1] at w; exact d6 j i hj2 hi w
          · by_cases z2 : k2 ≤ 14
            · rw [if_neg z1, if_pos (by omega)] at hj2 hi
              rw [if_neg z1, if_pos z2, if_neg z1, if_pos z2] at w
              exact d7 j i hj2 hi (by omega)
            · by_cases z3 : k2 ≤ 18
              · rw [if_neg z1, if_pos z3] at hj2 hi
                rw [if_neg z1, if_neg z2, if_pos z3, if_neg z1, if_neg z2, if_pos z3] at w
                exact d7 j i hj2 hi w
              · by_cases z4 : k2 = 24
                · rw [if_neg z1, if_neg z3, if_pos z4] at hj2 hi
                  rw [if_neg z1, if_neg z2, if_neg z3, if_pos z4, if_neg z1, if_neg z2, if_neg z3, if_pos z4] at w
                  exact d8 j i hj2 hi w
                · rw [if_neg z1, if_neg z2, if_neg z3, if_neg z4, if_neg z1, if_neg z2, if_neg z3, if_neg z4] at w
                  omega
        rw [if_neg (fun w => this w.2), if_neg (fun w => y w.2)]
        exact c2 k2 j hk2 hj2
    · rw [if_neg (fun w => z (kf_inj hk2 hk w.1)), if_neg (fun w => z w.1)]
      exact c2 k2 j hk2 hj2
  · obtain ⟨a1, a2, a3, a4⟩ := c3
    refine ⟨fun t ht => ?_, fun p hp => ?_, fun w hw => ?_, fun w hw => ?_⟩
    · rw [hq, hR, hI _ _ (by omega), hF 4 (by omega)]; exact a1 t ht
    · rw [hq, hR, hI _ _ (by omega), hF 20 (by omega), hF 19 (by omega)]
      obtain ⟨b1, b2, b3, b4, b5, b6, b7⟩ := a2 p hp
      refine ⟨b1, b2, b3, b4, b5, b6, fun z => ?_⟩
      rw [zF_eq] at z
      by_cases y : 17 = k ∧ p = i
      · rw [if_pos y] at z; exact absurd z (hv y.1.symm)
      · rw [if_neg y] at z; exact b7 z
    · rw [hq, hR, hF 23 (by omega), hF 25 (by omega)]; exact a3 w hw
    · rw [hq, hR, hI _ _ (by omega), hI _ _ (by omega)]; exact a4 w hw
  · have hps : z_ps (zs_F S k i v) = z_ps S := ps_congr rfl (fun w => by rw [hF 26 (by omega)])
    unfold zC4 z_used at c4 ⊢
    rw [hK, hn, hm, hps]; exact c4
  · have c5b : zLs σ2 (lA x g) (lV S) (lL S g B) := zLs_fr c5 hK hn (fun a => hI _ _ (by omega)) (fun f a _ => by rw [hR])
    exact c5b
  · obtain ⟨a1, a2, a3⟩ := c6
    refine ⟨fun w hw => ?_, fun d hd => ?_, fun q p hq2 hp => ?_⟩
    · refine F2_mono _ _ (fun b hb l hl hbl => ?_) (a1 w hw)
      rcases hbl with ⟨l1, l2, l3, l4, l5⟩ | ⟨l1, l2, l3, l4, l5⟩ | ⟨l1, ⟨l2, l3, l4, l5⟩, l6, l7, l8, l9⟩
      · exact Or.inl ⟨l1, l2, by rw [hI _ _ (by omega)]; exact l3, by rw [hR]; exact l4, by rw [hR]; exact l5⟩
      · exact Or.inr (Or.inl ⟨l1, l2, by rw [hI _ _ (by omega)]; exact l3, by rw [hI _ _ (by omega)]; exact l4, by rw [hI _ _ (by omega)]; exact l5⟩)
      · have nb : ∀ f, f = 65 ∨ f = 66 → xh_I σ2 f b = xh_I σ f b := by
          intro f hf
          rw [e, xI2]
          by_cases y : f = kf k ∧ b = ka x g k i
          · exfalso
            have h17 : k = 17 ∨ k = 18 := by
              rcases hf with rfl | rfl
              · exact Or.inl (kf_inj hk (k2 := 17) (by decide) (by rw [← y.1]; decide))
              · exact Or.inr (kf_inj hk (k2 := 18) (by decide) (by rw [← y.1]; decide))
            have hka : ka x g k i = gM g i := by
              rcases h17 with rfl | rfl <;> rfl
            have hi2 : i < z_N S 1 := by
              rcases h17 with rfl | rfl <;> exact hi
            exact l6 i hi2 (by rw [y.2, hka])
          · rw [if_neg y]
        exact Or.inr (Or.inr ⟨l1, ⟨by rw [hR]; exact l2, by rw [nb _ (by omega)]; exact l3, by rw [nb _ (by omega)]; exact l4, by rw [hR]; exact l5⟩, l6, by rw [hI _ _ (by omega)]; exact l7, by rw [hR]; exact l8, by rw [hR]; exact l9⟩)
    · rw [hI _ _ (by omega), hI _ _ (by omega), hI _ _ (by omega)]; exact a2 d hd
    · rw [hI _ _ (by omega)]; exact a3 q p hq2 hp
/-- the fixed part, behind a change of lines or of loose messages -/
theorem fq_C {x : Nat} {σ σ2 : xS} {S : zS} {g : zG} (q : zFq σ σ2) (c1 : zC1 x σ S) (c2 : zC2 x σ S g) (c3 : zC3 x σ S g) (c4 : zC4 x σ S g) : zC1 x σ2 S ∧ zC2 x σ2 S g ∧ zC3 x σ2 S g ∧ zC4 x σ2 S g := by
  obtain ⟨hK, hn, hm, hL, hq, hz, hI, hR⟩ := q
  refine ⟨?_, fun k i hk hi => ?_, ?_, ?_⟩
  · unfold zC1 xw6 at c1 ⊢
    rw [hK, hz, hL, hR _ _ (by omega), hR _ _ (by omega), hR _ _ (by omega), hR _ _ (by omega), hR _ _ (by omega), hI _ _ (by omega), hI _ _ (by omega), hI _ _ (by omega), hI _ _ (by omega)]
    exact c1
  · have := kf_rng hk
    rw [hI _ _ (by omega)]; exact c2 k i hk hi
  · obtain ⟨a1, a2, a3, a4⟩ := c3
    refine ⟨fun t ht => ?_, fun p hp => ?_, fun w hw => ?_, fun w hw => ?_⟩
    · rw [hq, hI _ _ (by omega), hR _ _ (by omega), hR _ _ (by omega)]; exact a1 t ht
    · rw [hq, hI _ _ (by omega), hR _ _ (by omega), hR _ _ (by omega), hR _ _ (by omega), hR _ _ (by omega), hR _ _ (by omega)]; exact a2 p hp
    · rw [hq, hR _ _ (by omega), hR _ _ (by omega)]; exact a3 w hw
    · rw [hq, hI _ _ (by omega), hI _ _ (by omega), hR _ _ (by omega)]; exact a4 w hw
  · unfold zC4 at c4 ⊢
    rw [hK, hn, hm]; exact c4
/-- what is on wires, to be done, waiting, behind a change that spares it -/
theorem Cc_fr {σ σ2 : xS} {S : zS} {g : zG} {B : Nat → List Nat} (q : zFq σ σ2) (c : zCc σ S g B) (P : Nat → Prop) (hP : (∀ w, w < 16 → ∀ b ∈ B w, P b) ∧ (∀ d ∈ z_D S, P (gM g d.1)) ∧ (∀ u p, u < z_N S 1 → p ∈ z_Q S u → P (gM g p))) (hI : ∀ f a, P a → f = 71 ∨ f = 72 ∨ f = 73 → xh_I σ2 f a = xh_I σ f a) (hR : ∀ f a, P a → f = 68 ∨ f = 69 → xh_R σ2 f a = xh_R σ f a) : zCc σ2 S g B := by
  obtain ⟨a1, a2, a3⟩ := c
  refine ⟨fun w hw => ?_, fun d hd => ?_, fun u p hu hp => ?_⟩
  · refine F2_mono _ _ (fun b hb l hl hbl => ?_) (a1 w hw)
    have pb := hP.1 w hw b hb
    rcases hbl with ⟨l1, l2, l3, l4, l5⟩ | ⟨l1, l2, l3, l4, l5⟩ | ⟨l1, ⟨l2, l3, l4, l5⟩, l6, l7, l8, l9⟩
    · exact Or.inl ⟨l1, l2, by rw [hI _ _ pb (by omega)]; exact l3, by rw [hR _ _ pb (by omega)]; exact l4, by rw [hR _ _ pb (by omega)]; exact l5⟩
    · exact Or.inr (Or.inl ⟨l1, l2, by rw [hI _ _ pb (by omega)]; exact l3, by rw [hI _ _ pb (by omega)]; exact l4, by rw [hI _ _ pb (by omega)]; exact l5⟩)
    · exact Or.inr (Or.inr ⟨l1, ⟨by rw [q.2.2.2.2.2.2.2 _ _ (by omega)]; exact l2, by rw [q.2.2.2.2.2.2.1 _ _ (by omega)]; exact l3, by rw [q.2.2.2.2.2.2.1 _ _ (by omega)]; exact l4, by rw [q.2.2.2.2.2.2.2 _ _ (by omega)]; exact l5⟩, l6, by rw [hI _ _ pb (by omega)]; exact l7, by rw [hR _ _ pb (by omega)]; exact l8, by rw [hR _ _ pb (by omega)]; exact l9⟩)
  · have pb := hP.2.1 d hd
    rw [hI _ _ pb (by omega), hI _ _ pb (by omega), hI _ _ pb (by omega)]; exact a2 d hd
  · have pb := hP.2.2 u p hu hp
    rw [hI _ _ pb (by omega)]; exact a3 u p hu hp
theorem lL_0 {S : zS} {g : zG} {B : Nat → List Nat} : lL S g B (0, 0) = (z_D S).map (fun d => gM g d.1) := rfl
theorem lL_1 {S : zS} {g : zG} {B : Nat → List Nat} {w : Nat} : lL S g B (1, w) = B w := rfl
theorem lL_2 {S : zS} {g : zG} {B : Nat → List Nat} {t : Nat} : lL S g B (2, t) = (z_H S t).map (gM g) := rfl
theorem lL_3 {S : zS} {g : zG} {B : Nat → List Nat} {p : Nat} : lL S g B (3, p) = (z_Q S p).map (gM g) := rfl
theorem lV_0 {S : zS} : lV S (0, 0) := Or.inl ⟨rfl, rfl⟩
theorem lV_1 {S : zS} {w : Nat} (h : w < 16) : lV S (1, w) := Or.inr (Or.inl ⟨rfl, h⟩)
theorem lV_2 {S : zS} {t : Nat} (h : t < z_N S 0) : lV S (2, t) := Or.inr (Or.inr (Or.inl ⟨rfl, h⟩))
theorem lV_3 {S : zS} {p : Nat} (h : p < z_N S 1) : lV S (3, p) := Or.inr (Or.inr (Or.inr ⟨rfl, h⟩))
theorem lV_ind {S : zS} {P : Nat × Nat → Prop} (h0 : P (0, 0)) (h1 : ∀ w, w < 16 → P (1, w)) (h2 : ∀ t, t < z_N S 0 → P (2, t)) (h3 : ∀ p, p < z_N S 1 → P (3, p)) : ∀ j, lV S j → P j := by
  rintro ⟨a, b⟩ hj
  rcases hj with ⟨z1, z2⟩ | ⟨z1, z2⟩ | ⟨z1, z2⟩ | ⟨z1, z2⟩
  · simp at z1 z2; subst z1; subst z2; exact h0
  · simp at z1; subst z1; exact h1 b z2
  · simp at z1; subst z1; exact h2 b z2
  · simp at z1; subst z1; exact h3 b z2
theorem lose_P {S : zS} {g : zG} {B : Nat → List Nat} {b : Nat} (h : lose S g B b) : (∀ w, w < 16 → ∀ c ∈ B w, c ≠ b) ∧ (∀ d ∈ z_D S, gM g d.1 ≠ b) ∧ (∀ u p, u < z_N S 1 → p ∈ z_Q S u → gM g p ≠ b) := by
  refine ⟨fun w hw c hc e => h (1, w) (lV_1 hw) (by rw [lL_1, ← e]; exact hc), fun d hd e => h (0, 0) lV_0 ?_, fun u p hu hp e => h (3, u) (lV_3 hu) ?_⟩
  · rw [lL_0, ← e]; exact List.mem_map.mpr ⟨d, hd, rfl⟩
  · rw [lL_3, ← e]; exact List.mem_map.mpr ⟨p, hp, rfl⟩
/-- a loose message's own numbers -/
theorem R_l {x : Nat} {σ σ2 : xS} {S : zS} {g : zG} {B : Nat → List Nat} {f b : Nat} {v : Int32} (h : RC x σ S g B) (hl : lose S g B b) (e : σ2 = xs_I σ f b v) (hf : f = 71 ∨ f = 72 ∨ f = 73) : RC x σ2 S g B := by
  obtain ⟨c1, c2, c3, c4, c5, c6⟩ := h
  have q := fq_I e (by omega)
  obtain ⟨d1, d2, d3, d4⟩ := fq_C q c1 c2 c3 c4
  refine ⟨d1, d2, d3, d4, zLs_fr c5 q.1 q.2.1 (fun a => by rw [e, xI2, if_neg (by omega)]) (fun f a _ => by rw [e]; rfl), Cc_fr q c6 (fun a => a ≠ b) (lose_P hl) (fun g2 a ha _ => ?_) (fun g2 a ha _ => by rw [e]; rfl)⟩
  rw [e, xI2, if_neg (fun z => ha z.2)]
theorem R_lR {x : Nat} {σ σ2 : xS} {S : zS} {g : zG} {B : Nat → List Nat} {f b : Nat} {v : Option Nat} (h : RC x σ S g B) (hl : lose S g B b) (e : σ2 = xs_R σ f b v) (hf : f = 68 ∨ f = 69) : RC x σ2 S g B := by
  obtain ⟨c1, c2, c3, c4, c5, c6⟩ := h
  have q := fq_R e (by omega)
  obtain ⟨d1, d2, d3, d4⟩ := fq_C q c1 c2 c3 c4
  refine ⟨d1, d2, d3, d4, zLs_fr c5 q.1 q.2.1 (fun a => by rw [e]; rfl) (fun g2 a _ => by rw [e, xR2, if_neg (by omega)]), Cc_fr q c6 (fun a => a ≠ b) (lose_P hl) (fun g2 a ha _ => by rw [e]; rfl) (fun g2 a ha _ => ?_)⟩
  rw [e, xR2, if_neg (fun z => ha z.2)]
