/-! The class's calls that change -/
theorem c_house {σ : xS} {v : Int32} {Q : Int32 → Prop} (k0 : zix 4 v = none → Q 0) (k1 : ∀ a, a < 4 → v = nI a → zix 4 v = some a → Q 1) : wp_X6_isHouse σ v Q := by
  unfold wp_X6_isHouse
  refine ix_cases (N := 4) (v := v) (fun e => ?_) (fun a ha e e2 => ?_)
  · have hn := ix_none.mp e
    exact ⟨fun _ => ⟨Or.inl rfl, k0 e⟩, fun z => ⟨fun _ => ⟨Or.inl rfl, k0 e⟩, fun y => absurd (hn.elim (fun w => absurd w z) id) y⟩⟩
  · refine ⟨fun z => ?_, fun _ => ⟨fun z => ?_, fun _ => ⟨Or.inr rfl, k1 a ha e e2⟩⟩⟩
    · rw [e] at z; exact absurd z (nneg (by omega))
    · rw [e, show (4 : Int32) = nI 4 from rfl, nle (by omega) (by omega)] at z; omega
theorem c_wireAt {x : Nat} {σ : xS} {S : zS} {g : zG} {B : Nat → List Nat} {a b : Int32} {Q : Option Nat → Prop} (h : RC x σ S g B) (k0 : zix 4 a = none ∨ zix 4 b = none → Q none) (k1 : ∀ i j, i < 4 → j < 4 → a = nI i → b = nI j → zix 4 a = some i → zix 4 b = some j → Q (some (x + 6 + 2 * (4 * i + j)))) : wp_X6_wireAt σ x a b Q := by
  refine ix_cases (N := 4) (v := a) (fun e => ?_) (fun i hi e1 e2 => ?_)
  · have hn := ix_none.mp e
    unfold wp_X6_wireAt
    refine ⟨fun _ => k0 (Or.inl e), fun z => ⟨fun _ => k0 (Or.inl e), fun y => ?_⟩⟩
    exact absurd (hn.elim (fun w => absurd w z) id) y
  · refine ix_cases (N := 4) (v := b) (fun e => ?_) (fun j hj e3 e4 => ?_)
    · have hn := ix_none.mp e
      subst e1
      unfold wp_X6_wireAt
      refine ⟨fun z => absurd z (nneg (by omega)), fun _ => ⟨fun z => ?_, fun _ => ⟨fun _ => k0 (Or.inr e), fun z => ⟨fun y => ?_, fun _ => k0 (Or.inr e)⟩⟩⟩⟩
      · rw [show (4 : Int32) = nI 4 from rfl, nle (by omega) (by omega)] at z; omega
      · have h4 : nI 4 ≤ b := hn.elim (fun w => absurd w z) id
        exact absurd y (ile_nlt.mp h4)
    · subst e1; subst e3
      exact c_wire h hi hj (k1 i j hi hj rfl rfl e2 e4)
theorem c_mayBegin {σ : xS} {kd n : Int32} {Q : Int32 → Prop} (k0 : ¬ zmb kd n → Q 0) (k1 : zmb kd n → Q 1) : wp_X6_mayBegin σ kd n Q := by
  have k56 : (kd = 5 ∨ kd = 6) → wb_X6_mayBegin_56 Q σ n := by
    intro h56
    refine ⟨fun z => ⟨Or.inl rfl, k0 ?_⟩, fun z => ⟨fun y => ⟨Or.inl rfl, k0 ?_⟩, fun y => ⟨Or.inr rfl, k1 (Or.inr (Or.inr (Or.inr ⟨h56, ile_nlt.mpr z, ile_nlt.mpr y⟩)))⟩⟩⟩
    · rintro (e | e | ⟨e, -⟩ | ⟨-, e1, -⟩)
      · rcases h56 with z2 | z2 <;> rw [z2] at e <;> exact absurd e (by decide)
      · rcases h56 with z2 | z2 <;> rw [z2] at e <;> exact absurd e (by decide)
      · rcases h56 with z2 | z2 <;> rw [z2] at e <;> exact absurd e (by decide)
      · exact (ile_nlt.mp e1) z
    · rintro (e | e | ⟨e, -⟩ | ⟨-, -, e2⟩)
      · rcases h56 with z2 | z2 <;> rw [z2] at e <;> exact absurd e (by decide)
      · rcases h56 with z2 | z2 <;> rw [z2] at e <;> exact absurd e (by decide)
      · rcases h56 with z2 | z2 <;> rw [z2] at e <;> exact absurd e (by decide)
      · exact (ile_nlt.mp e2) y
  have bad : ¬ kd = 0 → ¬ kd = 1 → ¬ kd = 2 → ¬ kd = 5 → ¬ kd = 6 → Q 0 := by
    intro n0 n1 n2 n5 n6
    refine k0 ?_
    rintro (e | e | ⟨e, -⟩ | ⟨e | e, -⟩)
    · exact n0 e
    · exact n2 e
    · exact n1 e
    · exact n5 e
    · exact n6 e
  unfold wp_X6_mayBegin
  refine ⟨fun e => k1 (Or.inl e), fun n0 => ⟨fun e => ⟨fun z => ⟨Or.inl rfl, k0 ?_⟩, fun z => ⟨Or.inr rfl, k1 (Or.inr (Or.inr (Or.inl ⟨e, ile_nlt.mpr z⟩)))⟩⟩, fun n1 => ⟨fun e => k1 (Or.inr (Or.inl e)), fun n2 => ⟨fun e => ?_, fun n3 => ⟨fun e => ?_, fun n4 => ⟨fun e => k56 (Or.inl e), fun n5 => ⟨fun e => k56 (Or.inr e), fun n6 => bad n0 n1 n2 n5 n6⟩⟩⟩⟩⟩⟩⟩
  · rintro (e2 | e2 | ⟨-, e2⟩ | ⟨e2 | e2, -⟩)
    · exact n0 e2
    · rw [e] at e2; exact absurd e2 (by decide)
    · exact (ile_nlt.mp e2) z
    · rw [e] at e2; exact absurd e2 (by decide)
    · rw [e] at e2; exact absurd e2 (by decide)
  · exact bad n0 n1 n2 (by rw [e]; decide) (by rw [e]; decide)
  · exact bad n0 n1 n2 (by rw [e]; decide) (by rw [e]; decide)
theorem c_thingOp {x : Nat} {σ : xS} {S : zS} {g : zG} {B : Nat → List Nat} {h k n : Int32} {Q : Int32 → xS → Prop} (hR : RC x σ S g B) (hJ : zJ S) (kk : ∀ σ2 g2 B2, RC x σ2 (zo_thing S h k n).2 g2 B2 → Q (zo_thing S h k n).1 σ2) : wp_X6_thing σ x h k n Q := by
  unfold zo_thing at kk
  have bad : (zix 4 h = none ∨ ¬ zmb k n) → wb_X6_thing_15 Q σ x := by
    intro z; rw [if_pos z] at kk; exact kk σ g B hR
  unfold wp_X6_thing
  refine c_house (fun e => ⟨fun _ => bad (Or.inl e), fun z => absurd rfl z⟩) (fun a ha e1 e2 => ⟨fun z => absurd z (by decide), fun _ => ?_⟩)
  refine c_mayBegin (fun hm => ⟨fun _ => bad (Or.inr hm), fun z => absurd rfl z⟩) (fun hm => ⟨fun z => absurd z (by decide), fun _ => ?_⟩)
  rw [if_neg (fun z => z.elim (fun z => by rw [e2] at z; cases z) (fun z => z hm))] at kk
  refine c_addThing (gg := -9) hR hJ.1 (by rw [zO_neg (by decide)]) (Or.inl (by decide)) (fun e40 => ?_) (fun hlt σ2 g2 _ _ _ _ R2 => ?_)
  · rw [if_pos e40] at kk; exact kk σ g B hR
  · rw [if_neg (by omega)] at kk; exact kk σ2 g2 B R2
theorem c_guardOp {x : Nat} {σ : xS} {S : zS} {g : zG} {B : Nat → List Nat} {h t a tk : Int32} {Q : Int32 → xS → Prop} (hR : RC x σ S g B) (hJ : zJ S) (kk : ∀ σ2 g2 B2, RC x σ2 (zo_guard S h t a tk).2 g2 B2 → Q (zo_guard S h t a tk).1 σ2) : wp_X6_guard σ x h t a tk Q := by
  have b := hJ.1.1.1
  unfold zo_guard at kk
  have bad : (zix 4 h = none ∨ zix (z_N S 0) t = none ∨ a < 0 ∨ 255 < a) → wb_X6_guard_30 Q σ x := by
    intro z; rw [if_pos z] at kk; exact kk σ g B hR
  unfold wp_X6_guard
  refine c_thing hR b.1 (fun e => ?_) (fun u hu e1 e2 => ?_)
  · exact c_house (fun e3 => ⟨fun _ => bad (Or.inl e3), fun z => absurd rfl z⟩) (fun i hi e3 e4 => ⟨fun z => absurd z (by decide), fun _ => ⟨fun _ => bad (Or.inr (Or.inl e)), fun a9 z => (by cases z)⟩⟩)
  · refine c_house (fun e3 => ⟨fun _ => bad (Or.inl e3), fun z => absurd rfl z⟩) (fun i hi e3 e4 => ⟨fun z => absurd z (by decide), fun _ => ⟨fun z => (by cases z), fun a9 z => ?_⟩⟩)
    cases z
    refine ⟨fun z => bad (Or.inr (Or.inr (Or.inl z))), fun nn => ⟨fun hle => ?_, fun z => bad (Or.inr (Or.inr (Or.inr (Classical.byContradiction (fun y => z (ile_nlt.mpr y))))))⟩⟩
    have hok : ¬ (zix 4 h = none ∨ zix (z_N S 0) t = none ∨ a < 0 ∨ 255 < a) := fun z => z.elim (fun z => by rw [e4] at z; cases z) (fun z => z.elim (fun z => by rw [e2] at z; cases z) (fun z => z.elim nn (ile_nlt.mp hle)))
    rw [if_neg hok] at kk
    subst e1
    have add : ∀ kd, kd = (if tk = 0 then 3 else 4) → wb_X6_guard_44 Q σ x a (gT g u) h kd := by
      intro kd ekd
      rw [← ekd] at kk
      refine c_addThing (gg := nI u) hR hJ.1 (by rw [zO_nI (by omega)]) (Or.inr ⟨u, hu, rfl⟩) (fun e40 => ?_) (fun hlt σ2 g2 _ _ _ _ R2 => ?_)
      · rw [if_pos e40] at kk; exact kk σ g B hR
      · rw [if_neg (by omega)] at kk; exact kk σ2 g2 B R2
    exact ⟨fun z => add 3 (by rw [if_pos z]), fun z => add 4 (by rw [if_neg z])⟩
theorem c_shutOp {x : Nat} {σ : xS} {S : zS} {g : zG} {B : Nat → List Nat} {t is : Int32} {Q : Int32 → xS → Prop} (hR : RC x σ S g B) (hJ : zJ S) (his : is = 0 ∨ is = 1) (kk : ∀ σ2 g2 B2, RC x σ2 (zo_shut S t is).2 g2 B2 → Q (zo_shut S t is).1 σ2) : wp_X6_shut σ x t is Q := by
  have b := hJ.1.1.1
  unfold zo_shut at kk
  unfold wp_X6_shut
  refine c_thing hR b.1 (fun e => ⟨fun _ => ?_, fun a z => (by cases z)⟩) (fun u hu e1 e2 => ⟨fun z => (by cases z), fun a9 z => ?_⟩)
  · rw [e] at kk; exact kk σ g B hR
  · cases z
    rw [e2] at kk
    obtain ⟨t1, t2, t3, t4, t5⟩ := k_of hR hu
    have h6 : xh_I σ 199 (gT g u) = z_F S 6 u := rI hR 6 u (by decide) hu
    have k28 : (z_F S 2 u = 3 ∨ z_F S 2 u = 4) → wb_X6_shut_28 Q σ x is (gT g u) := by
      intro h34
      have kk2 : ∀ σ2 g2 B2, RC x σ2 (zs_F S 6 u is) g2 B2 → Q (if z_F S 6 u = 0 then 0 else 1) σ2 := by
        simp only [if_pos h34] at kk
        exact kk
      unfold wb_X6_shut_28 wp_X6_oneIf
      rw [h6]
      refine ⟨t1, fun z => ⟨his, fun σ2 e => ?_⟩, fun z => ⟨his, fun σ2 e => ?_⟩⟩
      · rw [if_pos z] at kk2
        exact kk2 σ2 g B (R_F hR (k := 6) (i := u) e (by decide) hu)
      · rw [if_neg z] at kk2
        exact kk2 σ2 g B (R_F hR (k := 6) (i := u) e (by decide) hu)
    rw [t5]
    refine ⟨t1, fun e3 => k28 (Or.inl e3), fun n3 => ⟨fun e4 => k28 (Or.inr e4), fun n4 => ?_⟩⟩
    simp only [if_neg (show ¬ (z_F S 2 u = 3 ∨ z_F S 2 u = 4) from fun z => z.elim n3 n4)] at kk
    exact kk σ g B hR
theorem c_backOp {x : Nat} {σ : xS} {S : zS} {g : zG} {B : Nat → List Nat} {t : Int32} {Q : Int32 → xS → Prop} (hR : RC x σ S g B) (hJ : zJ S) (kk : ∀ σ2 g2 B2, RC x σ2 (zo_back S t).2 g2 B2 → Q (zo_back S t).1 σ2) : wp_X6_back σ x t Q := by
  have b := hJ.1.1.1
  unfold zo_back at kk
  unfold wp_X6_back
  refine c_thing hR b.1 (fun e => ⟨fun _ => ?_, fun a z => (by cases z)⟩) (fun u hu e1 e2 => ⟨fun z => (by cases z), fun a9 z => ?_⟩)
  · rw [e] at kk; exact kk σ g B hR
  · cases z
    rw [e2] at kk
    obtain ⟨t1, t2, t3, t4, t5⟩ := k_of hR hu
    have h7 : xh_I σ 200 (gT g u) = z_F S 7 u := rI hR 7 u (by decide) hu
    rw [t5, h7]
    unfold wb_X6_back_32 wp_X6_oneIf
    refine ⟨t1, fun e4 => ⟨fun z => ⟨fun y => absurd y (by decide), fun _ => ⟨t1, fun σ2 e => ?_⟩⟩, fun z => ⟨fun _ => ⟨t1, fun σ2 e => ?_⟩, fun y => absurd rfl y⟩⟩, fun n4 => ?_⟩
    · simp only [if_pos e4, if_pos z] at kk
      exact kk σ2 g B (R_F hR (k := 7) (i := u) e (by decide) hu)
    · simp only [if_pos e4, if_neg z] at kk
      exact kk σ2 g B (R_F hR (k := 7) (i := u) e (by decide) hu)
    · simp only [if_neg n4] at kk
      exact kk σ g B hR
theorem c_wakeOp {x : Nat} {σ : xS} {S : zS} {g : zG} {B : Nat → List Nat} {t n : Int32} {Q : Int32 → xS → Prop} (hR : RC x σ S g B) (hJ : zJ S) (kk : ∀ σ2 g2 B2, RC x σ2 (zo_wake S t n).2 g2 B2 → Q (zo_wake S t n).1 σ2) : wp_X6_wake σ x t n Q := by
  have b := hJ.1.1.1
  unfold zo_wake at kk
  unfold wp_X6_wake
  refine c_thing hR b.1 (fun e => ⟨fun _ => ?_, fun a z => (by cases z)⟩) (fun u hu e1 e2 => ⟨fun z => (by cases z), fun a9 z => ?_⟩)
  · rw [e] at kk; exact kk σ g B hR
  · cases z
    rw [e2] at kk
    obtain ⟨t1, t2, t3, t4, t5⟩ := k_of hR hu
    rw [t5]
    refine ⟨t1, fun e6 => ?_, fun n6 => ?_⟩
    · simp only [if_pos e6] at kk
      rw [hJ.2.2 u hu] at kk
      obtain ⟨g1, -⟩ := I_free (v := n) hJ.1 hu
      exact c_answerHeld hR hJ.1 hu (fun σ2 B2 R2 => c_doAll R2 g1 (fun σ3 B3 R3 => kk σ3 g B3 R3))
    · simp only [if_neg n6] at kk
      exact kk σ g B hR
theorem all_nil {S : zS} (h : z_D S = []) : ∀ n, z_all n S = S := by
  intro n
  cases n with
  | zero => rfl
  | succ n =>
    unfold z_all
    rw [h]
theorem W_out {S : zS} (hI : zI S) {w : Nat} (hw : 16 ≤ w) : z_W S w = [] := by
  cases e : z_W S w with
  | nil => rfl
  | cons l ls =>
    have := (hI.2.1 w l (by rw [e]; exact List.mem_cons_self)).1
    omega
theorem c_deliverOp {x : Nat} {σ : xS} {S : zS} {g : zG} {B : Nat → List Nat} {a b : Int32} {Q : Int32 → xS → Prop} (hR : RC x σ S g B) (hJ : zJ S) (kk : ∀ σ2 g2 B2, RC x σ2 (zo_deliver S a b).2 g2 B2 → Q (zo_deliver S a b).1 σ2) : wp_X6_deliver σ x a b Q := by
  unfold zo_deliver at kk
  unfold wp_X6_deliver
  refine c_wireAt hR (fun e => ⟨fun _ => ?_, fun a z => (by cases z)⟩) (fun i j hi hj e1 e2 e3 e4 => ⟨fun z => (by cases z), fun a4 z => ?_⟩)
  · rw [if_pos e] at kk; exact kk σ g B hR
  · cases z
    rw [if_neg (fun z => z.elim (fun z => by rw [e3] at z; cases z) (fun z => by rw [e4] at z; cases z))] at kk
    subst e1; subst e2
    rw [cl40 (by omega), cl40 (by omega)] at kk
    refine c_deliverFirst hR hJ.1 hJ.2.2 (by omega) (fun e => ?_) (fun l ls σ2 g2 B2 e R2 => ?_)
    · rw [e] at kk
      refine c_doAll hR hJ.1 (fun σ2 B2 R2 => ?_)
      rw [all_nil hJ.2.1] at R2
      exact kk σ2 g B2 R2
    · rw [e] at kk
      obtain ⟨a1, a2, a3, a4, a5⟩ := I_off hJ.1 e
      exact c_doAll R2 (I_come a1 a2 a3 a5) (fun σ3 B3 R3 => kk σ3 g2 B3 R3)
theorem le_sum {a : Nat} : ∀ {l : List Nat}, a ∈ l → a ≤ l.sum := by
  intro l
  induction l with
  | nil => intro h; exact absurd h (by simp)
  | cons b l ih =>
    intro h
    rw [List.sum_cons]
    rcases List.mem_cons.mp h with z | z
    · omega
    · have := ih z; omega
theorem c_firstWire {x : Nat} {σ : xS} {S : zS} {g : zG} {B : Nat → List Nat} {Q : Option Nat → Prop} (hR : RC x σ S g B) (hI : zI S) (k0 : (∀ w, z_W S w = []) → Q none) (k1 : ∀ w, w < 16 → ¬ z_W S w = [] → (∀ v, v < w → z_W S v = []) → Q (some (x + 6 + 2 * w))) : wp_X6_firstWireWithLetters σ x Q := by
  have hcnt := zI_cnt hI
  have hlen : ∀ w, w < 16 → xh_I σ 2 (x + 7 + 2 * w) = nI (z_W S w).length ∧ (z_W S w).length ≤ 140 := by
    intro w hw
    have h1 := (hR.2.2.2.2.1.1 (1, w) (lV_1 hw)).2.2.2.1
    rw [lL_1, F2_len _ _ (hR.2.2.2.2.2.1 w hw)] at h1
    refine ⟨h1, ?_⟩
    refine Nat.le_trans ?_ hcnt
    unfold z_cnt
    rw [← List.sum_eq_foldl]
    exact le_sum (List.mem_map.mpr ⟨w, List.mem_range.mpr hw, rfl⟩)
  have key : ∀ (n i : Nat), i ≤ 16 → 16 < i + n → (∀ v, v < i → z_W S v = []) → wb_X6_firstWireWithLetters_2 Q σ x n (nI i) := by
    intro n
    induction n with
    | zero => intro i h1 h2; omega
    | succ n ih =>
      intro i hi1 hi2 hb
      unfold wb_X6_firstWireWithLetters_2
      rw [show (16 : Int32) = nI 16 from rfl, nle (by omega) (by omega)]
      refine ⟨fun z => k0 (fun w => ?_), fun z => ⟨vpI (by omega), ?_⟩⟩
      · by_cases y : w < 16
        · exact hb w (by omega)
        · exact W_out hI (by omega)
      · have hi3 : i < 16 := by omega
        obtain ⟨a1, a2, a3, a4⟩ := hR.2.2.1.2.2.2 i hi3
        obtain ⟨h1, h2⟩ := hlen i hi3
        rw [cl40 (by omega), a1]
        refine ⟨fun y => (by cases y), fun a4' y => ?_⟩
        cases y
        refine ⟨(hR.2.2.2.1.2.2.2.1 i hi3).1, x + 7 + 2 * i, a4, (hR.2.2.2.1.2.2.2.1 i hi3).2, ?_⟩
        rw [h1, ← nI_0, nle (by omega) (by omega)]
        refine ⟨fun y => ?_, fun y => k1 i hi3 (fun e => y (by rw [e]; simp)) hb⟩
        unfold wb_X6_firstWireWithLetters_34
        rw [nI_1]
        refine ih (i + 1) (by omega) (by omega) (fun v hv => ?_)
        by_cases e : v = i
        · rw [e]; exact List.length_eq_zero_iff.mp (by omega)
        · exact hb v (by omega)
  refine ⟨17, ?_⟩
  have := key 17 0 (by omega) (by omega) (fun v hv => by omega)
  rw [nI_0] at this
  exact this
theorem c_flow {x : Nat} {Q : Int32 → xS → Prop} {n : Nat} (hn : n ≤ 100) : ∀ (d j : Nat) (σ : xS) (S : zS) (g : zG) (B : Nat → List Nat), n = j + d → RC x σ S g B → zJ S → (∀ σ2 g2 B2, RC x σ2 (z_flow d S).2 g2 B2 → Q (nI (j + (z_flow d S).1)) σ2) → wb_X6_flow_15 Q x (d + 1) σ (nI n) (nI j) := by
  intro d
  induction d with
  | zero =>
    intro j σ S g B hj hR hJ k
    unfold wb_X6_flow_15
    rw [nle (by omega) (by omega)]
    refine ⟨fun _ => ?_, fun z => absurd (by omega) z⟩
    have : n = j := by omega
    rw [this]
    exact k σ g B hR
  | succ d ih =>
    intro j σ S g B hj hR hJ k
    unfold wb_X6_flow_15
    rw [nle (by omega) (by omega)]
    refine ⟨fun z => absurd z (by omega), fun _ => ?_⟩
    refine c_firstWire hR hJ.1 (fun e => ⟨fun _ => ?_, fun a z => (by cases z)⟩) (fun w hw hne hb => ⟨fun z => (by cases z), fun a5 z => ?_⟩)
    · rw [flow_stop e] at k
      exact k σ g B hR
    · cases z
      refine c_deliverFirst hR hJ.1 hJ.2.2 hw (fun e => absurd e hne) (fun l ls σ2 g2 B2 e R2 => ?_)
      obtain ⟨a1, a2, a3, a4, a5⟩ := I_off hJ.1 e
      rw [flow_step (fw_some hw hne hb) e] at k
      refine c_doAll R2 (I_come a1 a2 a3 a5) (fun σ3 B3 R3 => ?_)
      rw [nI_1]
      refine ih (j + 1) σ3 (z_dlv S w l ls) g2 B3 (by omega) R3 (J_dlv hJ e).1 (fun σ4 g4 B4 R4 => ?_)
      have := k σ4 g4 B4 R4
      rw [show j + ((z_flow d (z_dlv S w l ls)).1 + 1) = j + 1 + (z_flow d (z_dlv S w l ls)).1 from by omega] at this
      exact this
theorem c_flowOp {x : Nat} {σ : xS} {S : zS} {g : zG} {B : Nat → List Nat} {n : Int32} {Q : Int32 → xS → Prop} (hR : RC x σ S g B) (hJ : zJ S) (kk : ∀ σ2 g2 B2, RC x σ2 (zo_flow S n).2 g2 B2 → Q (zo_flow S n).1 σ2) : wp_X6_flow σ x n Q := by
  unfold zo_flow at kk
  have bad : (n < 1 ∨ 100 < n) → wb_X6_flow_11 Q σ x := by
    intro z; rw [if_pos z] at kk; exact kk σ g B hR
  unfold wp_X6_flow
  refine ⟨fun z => bad (Or.inl z), fun n1 => ⟨fun hle => ?_, fun z => bad (Or.inr (Classical.byContradiction (fun y => z (ile_nlt.mpr y))))⟩⟩
  have hok : ¬ (n < 1 ∨ 100 < n) := fun z => z.elim n1 (ile_nlt.mp hle)
  rw [if_neg hok] at kk
  obtain ⟨k, h1, h2, rfl⟩ := i_1_100 hok
  rw [cl40 (by omega)] at kk
  refine ⟨k + 1, ?_⟩
  have := c_flow (x := x) (Q := Q) h2 k 0 σ S g B (by omega) hR hJ (fun σ2 g2 B2 R2 => by
    rw [Nat.zero_add]
    exact kk σ2 g2 B2 R2)
  rw [nI_0] at this
  exact this
theorem F_comm2 {S : zS} {k i j : Nat} {v w : Int32} (h : ¬ i = j) : zs_F (zs_F S k i v) k j w = zs_F (zs_F S k j w) k i v := by
  have e : xu_2 (xu_2 (z_F S) k i v) k j w = xu_2 (xu_2 (z_F S) k j w) k i v := by
    funext a b
    unfold xu_2
    by_cases h1 : a = k ∧ b = i
    · have : ¬ (a = k ∧ b = j) := by omega
      simp [h1]
      intro z; omega
    · by_cases h2 : a = k ∧ b = j
      · simp [h2]
        intro z; omega
      · simp [h1, h2]
  show (xu_2 (xu_2 (z_F S) k i v) k j w, z_N S, z_u S, z_r S, z_W S, z_H S, z_Q S, z_D S) = _
  rw [e]; rfl
theorem W_len {x : Nat} {σ : xS} {S : zS} {g : zG} {B : Nat → List Nat} (hR : RC x σ S g B) (hI : zI S) {w : Nat} (hw : w < 16) : xh_I σ 2 (x + 7 + 2 * w) = nI (z_W S w).length ∧ (z_W S w).length ≤ 140 := by
  have hcnt := zI_cnt hI
  have h1 := (hR.2.2.2.2.1.1 (1, w) (lV_1 hw)).2.2.2.1
  rw [lL_1, F2_len _ _ (hR.2.2.2.2.2.1 w hw)] at h1
  refine ⟨h1, ?_⟩
  refine Nat.le_trans ?_ hcnt
  unfold z_cnt
  rw [← List.sum_eq_foldl]
  exact le_sum (List.mem_map.mpr ⟨w, List.mem_range.mpr hw, rfl⟩)
theorem c_cuts {x u d : Nat} {Q : Int32 → xS → Prop} {n : Nat} {g : zG} (hn : n < 1000) (hu : u < 16) (hd : d < 16) (hne : ¬ u = d) : ∀ (r i : Nat) (σ : xS) (S : zS) (B : Nat → List Nat), n = i + r → r = (z_W S u).length + (z_W S d).length → RC x σ S g B → zI S → ¬ z_F S 36 u = 0 → ¬ z_F S 36 d = 0 → (∀ σ2 B2, RC x σ2 (z_lsts (z_W S d).length (z_lsts (z_W S u).length S u) d) g B2 → Q (nI n) σ2) → wb_X6_cut_89 Q x (r + 1) σ (x + 6 + 2 * u) (x + 6 + 2 * d) (nI n) (nI i) := by
  intro r
  induction r with
  | zero =>
    intro i σ S B hi hr hR hI cu cd k
    unfold wb_X6_cut_89
    rw [nle (by omega) (by omega)]
    refine ⟨fun _ => ?_, fun z => absurd (by omega) z⟩
    have h1 : (z_W S u).length = 0 := by omega
    have h2 : (z_W S d).length = 0 := by omega
    rw [h1, h2] at k
    exact k σ B hR
  | succ r ih =>
    intro i σ S B hi hr hR hI cu cd k
    obtain ⟨l1, l2⟩ := W_len hR hI hu
    unfold wb_X6_cut_89
    rw [nle (by omega) (by omega)]
    refine ⟨fun z => absurd z (by omega), fun _ => ⟨(hR.2.2.2.1.2.2.2.1 u hu).1, x + 7 + 2 * u, (hR.2.2.1.2.2.2 u hu).2.2.2, (hR.2.2.2.1.2.2.2.1 u hu).2, ?_⟩⟩
    rw [l1, ← nI_0, nle (by omega) (by omega)]
    refine ⟨fun z => ?_, fun z => ?_⟩
    · have hu0 : (z_W S u).length = 0 := by omega
      cases e : z_W S d with
      | nil => rw [e, hu0] at hr; simp at hr
      | cons l ls =>
        obtain ⟨a1, a2, a3, a4, a5⟩ := I_off hI e
        obtain ⟨g1, g2, g3, g4, g5, -⟩ := I_lst hI e
        have hIl := I_lost (h := d / 4) a1 a2 a5 (by omega)
        unfold wb_X6_cut_113
        refine c_loseFirst hR hI hd e (fun σ2 B2 R2 => ?_)
        refine c_doAll R2 hIl (fun σ3 B3 R3 => ?_)
        rw [nI_1]
        have eu : z_W (z_lst S d l ls) u = z_W S u := g5 u hne cu
        have ed : z_W (z_lst S d l ls) d = ls := g4 cd
        refine ih (i + 1) σ3 (z_lst S d l ls) B3 (by omega) (by rw [eu, ed]; rw [e] at hr; simp at hr; omega) R3 g1 (by rw [g3]; exact cu) (by rw [g3]; exact cd) (fun σ4 B4 R4 => k σ4 B4 ?_)
        rw [eu, ed, hu0] at R4
        rw [hu0, e]
        show RC x σ4 (z_lsts (ls.length + 1) S d) g B4
        rw [lsts_step e]
        exact R4
    · cases e : z_W S u with
      | nil => rw [e] at z; exact absurd (by simp) z
      | cons l ls =>
        obtain ⟨a1, a2, a3, a4, a5⟩ := I_off hI e
        obtain ⟨g1, g2, g3, g4, g5, -⟩ := I_lst hI e
        have hIl := I_lost (h := u / 4) a1 a2 a5 (by omega)
        unfold wb_X6_cut_113
        refine c_loseFirst hR hI hu e (fun σ2 B2 R2 => ?_)
        refine c_doAll R2 hIl (fun σ3 B3 R3 => ?_)
        rw [nI_1]
        have eu : z_W (z_lst S u l ls) u = ls := g4 cu
        have ed : z_W (z_lst S u l ls) d = z_W S d := g5 d (fun z => hne z.symm) cd
        refine ih (i + 1) σ3 (z_lst S u l ls) B3 (by omega) (by rw [eu, ed]; rw [e] at hr; simp at hr; omega) R3 g1 (by rw [g3]; exact cu) (by rw [g3]; exact cd) (fun σ4 B4 R4 => k σ4 B4 ?_)
        rw [eu, ed] at R4
        rw [e]
        show RC x σ4 (z_lsts (z_W S d).length (z_lsts (ls.length + 1) S u) d) g B4
        rw [lsts_step e]
        exact R4
theorem c_cutOp {x : Nat} {σ : xS} {S : zS} {g : zG} {B : Nat → List Nat} {a b : Int32} {Q : Int32 → xS → Prop} (hR : RC x σ S g B) (hJ : zJ S) (kk : ∀ σ2 g2 B2, RC x σ2 (zo_cut S a b).2 g2 B2 → Q (zo_cut S a b).1 σ2) : wp_X6_cut σ x a b Q := by
  unfold zo_cut at kk
  have bad : (zix 4 a = none ∨ zix 4 b = none ∨ a = b) → wb_X6_cut_45 Q σ x := by
    intro z; rw [if_pos z] at kk; exact kk σ g B hR
  -- the two wires, by the lower and the higher house
  have key : ∀ (l h : Int32), (l = a ∧ h = b) ∨ (l = b ∧ h = a) → (∀ i j, a = nI i → b = nI j → i < 4 → j < 4 → ¬ i = j → l = nI (z_lo i j) ∧ h = nI (z_hi i j)) → wp_X6_wireAt σ x l h (fun x9 => wp_X6_wireAt σ x h l (fun x11 => (x9 = none → wb_X6_cut_45 Q σ x) ∧ (∀ a14, x9 = some a14 → (x11 = none → wb_X6_cut_45 Q σ x) ∧ (∀ a17, x11 = some a17 → (a = b → wb_X6_cut_45 Q σ x) ∧ (¬ a = b → xh_k σ a14 = 6 ∧ (((xh_I σ 323 a14) = 0 → ∀ σ22, σ22 = xs_I σ 323 a14 1 → (xh_k σ22 a17 = 6 ∧ ∀ σ24, σ24 = xs_I σ22 323 a17 1 → (∃ r25, xh_R σ24 322 a14 = some r25 ∧ (xh_k σ24 r25 = 1 ∧ (∃ r28, xh_R σ24 322 a17 = some r28 ∧ (xh_k σ24 r28 = 1 ∧ (∃ m89, wb_X6_cut_89 Q x m89 σ24 a14 a17 ((xh_I σ24 2 r25) + (xh_I σ24 2 r28)) 0))))))) ∧ (¬ (xh_I σ 323 a14) = 0 → Q (-2) σ))))))) := by
    intro l h hlh hord
    have badlh : (zix 4 l = none ∨ zix 4 h = none) → (zix 4 a = none ∨ zix 4 b = none ∨ a = b) := by
      rcases hlh with ⟨e1, e2⟩ | ⟨e1, e2⟩
      · rw [e1, e2]; exact fun z => z.elim Or.inl (fun z => Or.inr (Or.inl z))
      · rw [e1, e2]; exact fun z => z.elim (fun z => Or.inr (Or.inl z)) Or.inl
    refine c_wireAt hR (fun e => ?_) (fun i' j' hi' hj' f1 f2 f3 f4 => ?_)
    · refine c_wireAt hR (fun _ => ⟨fun _ => bad (badlh e), fun a14 z => (by cases z)⟩) (fun i j _ _ _ _ _ _ => ⟨fun _ => bad (badlh e), fun a14 z => (by cases z)⟩)
    · refine c_wireAt hR (fun e => ⟨fun z => (by cases z), fun a14 z => ⟨fun _ => bad (badlh (e.elim Or.inr Or.inl)), fun a17 y => (by cases y)⟩⟩) (fun j'' i'' hj'' hi'' f5 f6 f7 f8 => ⟨fun z => (by cases z), fun a14 z => ⟨fun y => (by cases y), fun a17 y => ⟨fun eab => bad (Or.inr (Or.inr eab)), fun nab => ?_⟩⟩⟩)
      cases z
      cases y
      have ei : i'' = i' := by rw [f1] at f6; exact ((nI_eq (by omega) (by omega)).mp f6).symm
      have ej : j'' = j' := by rw [f2] at f5; exact ((nI_eq (by omega) (by omega)).mp f5).symm
      subst ei; subst ej
      obtain ⟨i, j, hi, hj, ea, eb, za, zb⟩ : ∃ i j, i < 4 ∧ j < 4 ∧ a = nI i ∧ b = nI j ∧ zix 4 a = some i ∧ zix 4 b = some j := by
        rcases hlh with ⟨e1, e2⟩ | ⟨e1, e2⟩
        · rw [e1] at f1 f3; rw [e2] at f2 f4
          exact ⟨i'', j'', hi', hj', f1, f2, f3, f4⟩
        · rw [e1] at f1 f3; rw [e2] at f2 f4
          exact ⟨j'', i'', hj', hi', f2, f1, f4, f3⟩
      have hij : ¬ i = j := fun z => nab (by rw [ea, eb, z])
      obtain ⟨o1, o2⟩ := hord i j ea eb hi hj hij
      obtain ⟨p1, p2, p3⟩ := lohi hij hi hj
      have eL : i'' = z_lo i j := by rw [f1] at o1; exact (nI_eq (by omega) (by omega)).mp o1
      have eH : j'' = z_hi i j := by rw [f2] at o2; exact (nI_eq (by omega) (by omega)).mp o2
      subst eL; subst eH
      rw [if_neg (fun z => z.elim (fun z => by rw [za] at z; cases z) (fun z => z.elim (fun z => by rw [zb] at z; cases z) nab))] at kk
      rw [ea, eb, cl40 (by omega), cl40 (by omega)] at kk
      have hw1 : 4 * z_lo i j + z_hi i j < 16 := by omega
      have hw2 : 4 * z_hi i j + z_lo i j < 16 := by omega
      have h36 : xh_I σ 323 (x + 6 + 2 * (4 * z_lo i j + z_hi i j)) = z_F S 36 (4 * z_lo i j + z_hi i j) := rI hR 36 _ (by decide) hw1
      have sym : z_F S 36 (4 * i + j) = z_F S 36 (4 * z_lo i j + z_hi i j) := by
        rcases p3 with ⟨q1, q2⟩ | ⟨q1, q2⟩
        · rw [q1, q2]
        · rw [q1, q2]; exact hJ.1.1.2.2.2.2.2.1 i j hi hj
      rw [h36]
      refine ⟨(hR.2.2.2.1.2.2.2.1 _ hw1).1, fun e0 σ22 e22 => ?_, fun n0 => ?_⟩
      · rw [if_neg (fun z => z (by rw [sym]; exact e0))] at kk
        have R22 : RC x σ22 (zs_F S 36 (4 * z_lo i j + z_hi i j) 1) g B := R_F hR (k := 36) (i := 4 * z_lo i j + z_hi i j) e22 (by decide) hw1
        refine ⟨(R22.2.2.2.1.2.2.2.1 _ hw2).1, fun σ24 e24 => ?_⟩
        have R24 : RC x σ24 (zs_F (zs_F S 36 (4 * z_lo i j + z_hi i j) 1) 36 (4 * z_hi i j + z_lo i j) 1) g B := R_F R22 (k := 36) (i := 4 * z_hi i j + z_lo i j) e24 (by decide) hw2
        have ecut : zs_F (zs_F S 36 (4 * z_lo i j + z_hi i j) 1) 36 (4 * z_hi i j + z_lo i j) 1 = z_cut S i j := by
          unfold z_cut
          rcases p3 with ⟨q1, q2⟩ | ⟨q1, q2⟩
          · rw [q1, q2]
          · rw [q1, q2, F_comm2 (by omega)]
        rw [ecut] at R24
        obtain ⟨h1, c1, c2, g1, g2, g3, g4, g5⟩ := cuts_pre hJ hi hj hij
        obtain ⟨w1, w2⟩ := W_len R24 h1 hw1
        obtain ⟨w3, w4⟩ := W_len R24 h1 hw2
        refine ⟨x + 7 + 2 * (4 * z_lo i j + z_hi i j), (R24.2.2.1.2.2.2 _ hw1).2.2.2, (R24.2.2.2.1.2.2.2.1 _ hw1).2, x + 7 + 2 * (4 * z_hi i j + z_lo i j), (R24.2.2.1.2.2.2 _ hw2).2.2.2, (R24.2.2.2.1.2.2.2.1 _ hw2).2, (z_W (z_cut S i j) (4 * z_lo i j + z_hi i j)).length + (z_W (z_cut S i j) (4 * z_hi i j + z_lo i j)).length + 1, ?_⟩
        rw [w1, w3, nI_add]
        have := c_cuts (x := x) (Q := Q) (g := g) (n := (z_W (z_cut S i j) (4 * z_lo i j + z_hi i j)).length + (z_W (z_cut S i j) (4 * z_hi i j + z_lo i j)).length) (by omega) hw1 hw2 (by omega) ((z_W (z_cut S i j) (4 * z_lo i j + z_hi i j)).length + (z_W (z_cut S i j) (4 * z_hi i j + z_lo i j)).length) 0 σ24 (z_cut S i j) B (by omega) rfl R24 h1 c1 c2 (fun σ2 B2 R2 => kk σ2 g B2 R2)
        rw [nI_0] at this
        exact this
      · rw [if_pos (by rw [sym]; exact n0)] at kk
        exact kk σ g B hR
  unfold wp_X6_cut
  by_cases h1 : a < b
  · have h2 : ¬ b < a := by rw [Int32.lt_iff_toInt_lt] at h1 ⊢; omega
    rw [if_neg h2, if_pos h1]
    refine key a b (Or.inl ⟨rfl, rfl⟩) (fun i j ea eb hi hj hne => ?_)
    rw [ea, eb, nlt (by omega) (by omega)] at h1
    unfold z_lo z_hi
    rw [if_neg (by omega), if_neg (by omega)]
    exact ⟨ea, eb⟩
  · rw [if_neg h1]
    by_cases h2 : b < a
    · rw [if_pos h2]
      refine key b a (Or.inr ⟨rfl, rfl⟩) (fun i j ea eb hi hj hne => ?_)
      rw [ea, eb, nlt (by omega) (by omega)] at h2
      unfold z_lo z_hi
      rw [if_pos (by omega), if_pos (by omega)]
      exact ⟨eb, ea⟩
    · rw [if_neg h2]
      have eab : a = b := by
        apply Int32.toInt_inj.mp
        rw [Int32.lt_iff_toInt_lt] at h1 h2
        omega
      subst eab
      exact key a a (Or.inl ⟨rfl, rfl⟩) (fun i j ea eb hi hj hne => by
        rw [ea] at eb
        exact absurd ((nI_eq (by omega) (by omega)).mp eb) hne)
theorem c_againOp {x : Nat} {σ : xS} {S : zS} {g : zG} {B : Nat → List Nat} {a b : Int32} {Q : Int32 → xS → Prop} (hR : RC x σ S g B) (hJ : zJ S) (kk : ∀ σ2 g2 B2, RC x σ2 (zo_again S a b).2 g2 B2 → Q (zo_again S a b).1 σ2) : wp_X6_again σ x a b Q := by
  unfold zo_again at kk
  have bad : (zix 4 a = none ∨ zix 4 b = none ∨ a = b) → wb_X6_again_29 Q σ x := by
    intro z; rw [if_pos z] at kk; exact kk σ g B hR
  unfold wp_X6_again
  refine c_wireAt hR (fun e => ?_) (fun i j hi hj e1 e2 e3 e4 => ?_)
  · exact c_wireAt hR (fun _ => ⟨fun _ => bad (e.elim Or.inl (fun z => Or.inr (Or.inl z))), fun a6 z => (by cases z)⟩) (fun _ _ _ _ _ _ _ _ => ⟨fun _ => bad (e.elim Or.inl (fun z => Or.inr (Or.inl z))), fun a6 z => (by cases z)⟩)
  · refine c_wireAt hR (fun e => ?_) (fun j2 i2 hj2 hi2 e5 e6 e7 e8 => ⟨fun z => (by cases z), fun a6 z => ⟨fun y => (by cases y), fun a9 y => ⟨fun eab => bad (Or.inr (Or.inr eab)), fun nab => ?_⟩⟩⟩)
    · rcases e with e | e
      · rw [e4] at e; cases e
      · rw [e3] at e; cases e
    · cases z
      cases y
      have ei : i2 = i := by rw [e1] at e6; exact ((nI_eq (by omega) (by omega)).mp e6).symm
      have ej : j2 = j := by rw [e2] at e5; exact ((nI_eq (by omega) (by omega)).mp e5).symm
      subst ei; subst ej
      rw [if_neg (fun z => z.elim (fun z => by rw [e3] at z; cases z) (fun z => z.elim (fun z => by rw [e4] at z; cases z) nab))] at kk
      rw [e1, e2, cl40 (by omega), cl40 (by omega)] at kk
      have hw1 : 4 * i2 + j2 < 16 := by omega
      have hw2 : 4 * j2 + i2 < 16 := by omega
      have h36 : xh_I σ 323 (x + 6 + 2 * (4 * i2 + j2)) = z_F S 36 (4 * i2 + j2) := rI hR 36 _ (by decide) hw1
      rw [h36]
      refine ⟨(hR.2.2.2.1.2.2.2.1 _ hw1).1, fun e0 => ?_, fun n0 σ14 e14 => ?_⟩
      · rw [if_pos e0] at kk; exact kk σ g B hR
      · rw [if_neg n0] at kk
        have R14 : RC x σ14 (zs_F S 36 (4 * i2 + j2) 0) g B := R_F hR (k := 36) (i := 4 * i2 + j2) e14 (by decide) hw1
        refine ⟨(R14.2.2.2.1.2.2.2.1 _ hw2).1, fun σ16 e16 => ?_⟩
        exact kk σ16 g B (R_F R14 (k := 36) (i := 4 * j2 + i2) e16 (by decide) hw2)
