/-! The class's calls that only look -/
theorem c_aboutOp {x : Nat} {σ : xS} {S : zS} {g : zG} {B : Nat → List Nat} {t what : Int32} {Q : Int32 → Prop} (hR : RC x σ S g B) (hJ : zJ S) (k : Q (zo_about S t what)) : wp_X6_about σ x t what Q := by
  have b := hJ.1.1.1
  unfold zo_about at k
  unfold wp_X6_about
  refine c_thing hR b.1 (fun e => ⟨fun _ => ?_, fun a z => (by cases z)⟩) (fun u hu e1 e2 => ⟨fun z => (by cases z), fun a4 z => ?_⟩)
  · rw [e] at k; exact k
  · cases z
    rw [e2] at k
    obtain ⟨t1, t2, t3, t4, t5⟩ := k_of hR hu
    have h5 : xh_I σ 196 (gT g u) = z_F S 5 u := rI hR 5 u (by decide) hu
    have h6 : xh_I σ 199 (gT g u) = z_F S 6 u := rI hR 6 u (by decide) hu
    have h7 : xh_I σ 200 (gT g u) = z_F S 7 u := rI hR 7 u (by decide) hu
    have h195 := (hR.2.2.1.1 u hu).2.2.1
    have hsz : xh_I σ 2 (gT g u + 1) = z_F S 8 u := by
      have := (hR.2.2.2.2.1.1 (2, u) (lV_2 hu)).2.2.2.1
      rw [lL_2, List.length_map] at this
      rw [hJ.2.2 u hu]; exact this
    have k2 : Q (if what = 0 then z_F S 1 u else if what = 1 then z_F S 2 u else if what = 2 then z_F S 3 u else if what = 3 then z_F S 4 u else if what = 4 then z_F S 5 u else if what = 5 then (if z_F S 6 u = 0 then 0 else 1) else if what = 6 then (if z_F S 7 u = 0 then 0 else 1) else if what = 7 then z_F S 8 u else -1) := k
    rw [t2, t4, t5, h5, h6, h7, h195]
    unfold wp_X6_oneIf
    refine ⟨fun e => ⟨t1, ?_⟩, fun n0 => ⟨fun e => ⟨t1, ?_⟩, fun n1 => ⟨fun e => ⟨t1, ?_⟩, fun n2 => ⟨fun e => ⟨t1, ?_⟩, fun n3 => ⟨fun e => ⟨t1, ?_⟩, fun n4 => ⟨fun e => ⟨t1, fun z => ?_, fun z => ?_⟩, fun n5 => ⟨fun e => ⟨t1, fun z => ?_, fun z => ?_⟩, fun n6 => ⟨fun e => ⟨t1, gT g u + 1, (hR.2.2.1.1 u hu).2.2.2, (hR.2.2.2.1.1 u hu).2.1, ?_⟩, fun n7 => ?_⟩⟩⟩⟩⟩⟩⟩⟩
    · rw [if_pos e] at k2; exact k2
    · rw [if_neg n0, if_pos e] at k2; exact k2
    · rw [if_neg n0, if_neg n1, if_pos e] at k2; exact k2
    · rw [if_neg n0, if_neg n1, if_neg n2, if_pos e] at k2
      obtain ⟨-, -, v3, v4⟩ := hJ.1.1.2.1 u hu
      by_cases hk : z_F S 2 u = 3 ∨ z_F S 2 u = 4
      · obtain ⟨w, hw, ew⟩ := v3 hk
        rw [ew, zO_nI (by omega)]
        refine ⟨fun z => (by cases z), fun a15 z => ?_⟩
        cases z
        rw [(hR.2.2.1.1 w hw).2.1]
        rw [ew] at k2
        exact ⟨(hR.2.2.2.1.1 w hw).1, k2⟩
      · rw [v4 hk, zO_neg (by decide)]
        rw [v4 hk] at k2
        exact ⟨fun _ => k2, fun a z => (by cases z)⟩
    · rw [if_neg n0, if_neg n1, if_neg n2, if_neg n3, if_pos e] at k2; exact k2
    · rw [if_neg n0, if_neg n1, if_neg n2, if_neg n3, if_neg n4, if_pos e, if_pos z] at k2; exact k2
    · rw [if_neg n0, if_neg n1, if_neg n2, if_neg n3, if_neg n4, if_pos e, if_neg z] at k2; exact k2
    · rw [if_neg n0, if_neg n1, if_neg n2, if_neg n3, if_neg n4, if_neg n5, if_pos e, if_pos z] at k2; exact k2
    · rw [if_neg n0, if_neg n1, if_neg n2, if_neg n3, if_neg n4, if_neg n5, if_pos e, if_neg z] at k2; exact k2
    · rw [if_neg n0, if_neg n1, if_neg n2, if_neg n3, if_neg n4, if_neg n5, if_neg n6, if_pos e] at k2
      rw [hsz]; exact k2
    · rw [if_neg n0, if_neg n1, if_neg n2, if_neg n3, if_neg n4, if_neg n5, if_neg n6, if_neg n7] at k2; exact k2
theorem c_stateOp {x : Nat} {σ : xS} {S : zS} {g : zG} {B : Nat → List Nat} {p h what : Int32} {Q : Int32 → Prop} (hR : RC x σ S g B) (hJ : zJ S) (k : Q (zo_state S p h what)) : wp_X6_state σ x p h what Q := by
  have b := hJ.1.1.1
  unfold zo_state at k
  have bad : (zix (z_N S 1) p = none ∨ zix 4 h = none ∨ (what < 0 ∨ 1 < what)) → wb_X6_state_28 Q σ x := by
    intro z; rw [if_pos z] at k; exact k
  unfold wp_X6_state
  refine c_promise hR b.2.1 (fun e => ⟨fun _ => bad (Or.inl e), fun a z => (by cases z)⟩) (fun q hq e1 e2 => ⟨fun z => (by cases z), fun a4 z => ?_⟩)
  cases z
  refine c_house (fun e => ⟨fun _ => bad (Or.inr (Or.inl e)), fun y => absurd rfl y⟩) (fun a ha e3 e4 => ⟨fun y => absurd y (by decide), fun _ => ⟨fun z => bad (Or.inr (Or.inr (Or.inl z))), fun nn => ⟨fun hle => ⟨(hR.2.2.2.1.2.1 q hq).2.1, ?_⟩, fun z => bad (Or.inr (Or.inr (Or.inr (Classical.byContradiction (fun y => z (ile_nlt.mpr y))))))⟩⟩⟩)
  rw [if_neg (fun z => z.elim (fun z => by rw [e2] at z; cases z) (fun z => z.elim (fun z => by rw [e4] at z; cases z) (fun z => z.elim nn (ile_nlt.mp hle))))] at k
  subst e1
  rw [cl40 (by omega)] at k
  refine c_known hR hq (fun z => ⟨fun _ => ?_, fun y => absurd rfl y⟩) (fun hk => ⟨fun y => absurd y (by decide), fun _ => ⟨fun e => ?_, fun e => ?_⟩⟩)
  · rw [if_pos z] at k; exact k
  · rw [if_neg (fun z => z hk), if_pos e] at k; exact c_howIn hR hq k
  · rw [if_neg (fun z => z hk), if_neg e] at k; exact c_valueIn hR hq k
theorem c_promiseOp {x : Nat} {σ : xS} {S : zS} {g : zG} {B : Nat → List Nat} {p what : Int32} {Q : Int32 → Prop} (hR : RC x σ S g B) (hJ : zJ S) (k : Q (zo_promise S p what)) : wp_X6_promise σ x p what Q := by
  have b := hJ.1.1.1
  unfold zo_promise at k
  unfold wp_X6_promise
  refine c_promise hR b.2.1 (fun e => ⟨fun _ => ?_, fun a z => (by cases z)⟩) (fun u hu e1 e2 => ⟨fun z => (by cases z), fun a4 z => ?_⟩)
  · rw [e] at k; exact k
  · cases z
    rw [e2] at k
    have h9 : xh_I σ 129 (gM g u + 1) = z_F S 9 u := rI hR 9 u (by decide) hu
    have h10 : xh_I σ 130 (gM g u + 1) = z_F S 10 u := rI hR 10 u (by decide) hu
    have h15 : xh_I σ 75 (gM g u) = z_F S 15 u := rI hR 15 u (by decide) hu
    have h16 : xh_I σ 74 (gM g u) = z_F S 16 u := rI hR 16 u (by decide) hu
    have hsz : xh_I σ 2 (gM g u + 2) = nI (z_Q S u).length := by
      have := (hR.2.2.2.2.1.1 (3, u) (lV_3 hu)).2.2.2.1
      rw [lL_3, List.length_map] at this
      exact this
    have c3 := hR.2.2.1.2.1 u hu
    have c4 := hR.2.2.2.1.2.1 u hu
    have k2 : Q (if what = 0 then z_F S 9 u else if what = 1 then z_F S 10 u else if what = 2 then nI (z_Q S u).length else if what = 3 then z_F S 15 u else if what = 4 then z_F S 16 u else -1) := k
    rw [h9, h10]
    refine ⟨fun e => ⟨c4.2.1, ?_⟩, fun n0 => ⟨fun e => ⟨c4.2.1, ?_⟩, fun n1 => ⟨fun e => ⟨c4.2.1, gM g u + 2, c3.2.2.2.1, c4.2.2.1, ?_⟩, fun n2 => ⟨fun e => ⟨c4.2.1, gM g u, c3.2.2.1, c4.1, ?_⟩, fun n3 => ⟨fun e => ⟨c4.2.1, gM g u, c3.2.2.1, c4.1, ?_⟩, fun n4 => ?_⟩⟩⟩⟩⟩
    · rw [if_pos e] at k2; exact k2
    · rw [if_neg n0, if_pos e] at k2; exact k2
    · rw [if_neg n0, if_neg n1, if_pos e] at k2; rw [hsz]; exact k2
    · rw [if_neg n0, if_neg n1, if_neg n2, if_pos e] at k2; rw [h15]; exact k2
    · rw [if_neg n0, if_neg n1, if_neg n2, if_neg n3, if_pos e] at k2; rw [h16]; exact k2
    · rw [if_neg n0, if_neg n1, if_neg n2, if_neg n3, if_neg n4] at k2; exact k2
theorem c_wireOp {x : Nat} {σ : xS} {S : zS} {g : zG} {B : Nat → List Nat} {a b : Int32} {Q : Int32 → Prop} (hR : RC x σ S g B) (hJ : zJ S) (k : Q (zo_wire S a b)) : wp_X6_wire σ x a b Q := by
  unfold zo_wire at k
  unfold wp_X6_wire
  refine c_wireAt hR (fun e => ⟨fun _ => ?_, fun a z => (by cases z)⟩) (fun i j hi hj e1 e2 e3 e4 => ⟨fun z => (by cases z), fun a4 z => ?_⟩)
  · rw [if_pos e] at k; exact k
  · cases z
    rw [if_neg (fun z => z.elim (fun z => by rw [e3] at z; cases z) (fun z => by rw [e4] at z; cases z))] at k
    subst e1; subst e2
    rw [cl40 (by omega), cl40 (by omega)] at k
    have hw : 4 * i + j < 16 := by omega
    refine ⟨(hR.2.2.2.1.2.2.2.1 _ hw).1, x + 7 + 2 * (4 * i + j), (hR.2.2.1.2.2.2 _ hw).2.2.2, (hR.2.2.2.1.2.2.2.1 _ hw).2, ?_⟩
    rw [(W_len hR hJ.1 hw).1]
    exact k
theorem c_at {σ : xS} {a : Nat} {L : List Nat} {i : Int32} {Q : Option Nat → Prop} (hL : zLn σ a L) (hk : ∀ b ∈ L, xh_k σ b = 2) (hlen : L.length < 1000) (k0 : i < 0 → Q none) (k1 : ¬ i < 0 → Q L[i.toNatClampNeg]?) : wp_X0_at σ a i Q := by
  unfold wp_X0_at
  refine ⟨fun z => k0 z, fun nn => ?_⟩
  obtain ⟨ei, hi⟩ := i_nat nn
  have kk := k1 nn
  generalize i.toInt.toNat = u at ei hi
  subst ei
  rw [nI_clamp hi] at kk
  rw [hL.2.2.1, nI_ltI hi (by omega)]
  refine ⟨fun hlt => ?_, fun hge => ?_⟩
  · have key : ∀ (f : Nat) (l : List Nat) (j : Nat), j ≤ u → u < j + f → l = L.drop j → zCh σ l → wb_X0_at_21 Q σ a f (nI u) l.head? (nI j) := by
      intro f
      induction f with
      | zero => intro l j h1 h2; omega
      | succ f ih =>
        intro l j hj1 hj2 hl hc
        unfold wb_X0_at_21
        rw [nle (by omega) (by omega)]
        refine ⟨fun z => ?_, fun z => ⟨fun y => ?_, fun a3 y => ?_⟩⟩
        · have : j = u := by omega
          subst this
          unfold wb_X0_at_41
          rw [hl, List.head?_drop]
          exact kk
        · exfalso
          rw [List.head?_eq_none_iff] at y
          rw [y] at hl
          have := congrArg List.length hl
          rw [List.length_drop] at this
          simp at this
          omega
        · cases l with
          | nil => cases y
          | cons c l =>
            have hca : a3 = c := by
              have : some c = some a3 := y
              exact (Option.some.inj this).symm
            subst hca
            have hmem : a3 ∈ L := by
              have : a3 ∈ L.drop j := by rw [← hl]; exact List.mem_cons_self
              exact List.mem_of_mem_drop this
            rw [hc.1, nI_1]
            refine ⟨hk a3 hmem, ih l (j + 1) (by omega) (by omega) ?_ hc.2⟩
            rw [← List.drop_drop, ← hl]
            rfl
    refine ⟨u + 1, ?_⟩
    have := key (u + 1) L 0 (by omega) (by omega) rfl hL.2.2.2
    rw [nI_0, ← hL.1] at this
    exact this
  · rw [List.getElem?_eq_none (by omega)] at kk
    exact kk
theorem c_letterOp {x : Nat} {σ : xS} {S : zS} {g : zG} {B : Nat → List Nat} {a b i what : Int32} {Q : Int32 → Prop} (hR : RC x σ S g B) (hJ : zJ S) (k : Q (zo_letter S a b i what)) : wp_X6_letter σ x a b i what Q := by
  have bb := hJ.1.1.1
  unfold zo_letter at k
  have bad : (zix 4 a = none ∨ zix 4 b = none ∨ (what < 0 ∨ 5 < what)) → wb_X6_letter_24 Q σ x := by
    intro z; rw [if_pos z] at k; exact k
  unfold wp_X6_letter
  refine c_wireAt hR (fun e => ⟨fun _ => bad (e.elim Or.inl (fun z => Or.inr (Or.inl z))), fun a z => (by cases z)⟩) (fun u v hu hv e1 e2 e3 e4 => ⟨fun z => (by cases z), fun a4 z => ?_⟩)
  cases z
  have hw : 4 * u + v < 16 := by omega
  refine ⟨fun z => bad (Or.inr (Or.inr (Or.inl z))), fun nn => ⟨fun hle => ⟨(hR.2.2.2.1.2.2.2.1 _ hw).1, x + 7 + 2 * (4 * u + v), (hR.2.2.1.2.2.2 _ hw).2.2.2, (hR.2.2.2.1.2.2.2.1 _ hw).2, ?_⟩, fun z => bad (Or.inr (Or.inr (Or.inr (Classical.byContradiction (fun y => z (ile_nlt.mpr y))))))⟩⟩
  rw [if_neg (fun z => z.elim (fun z => by rw [e3] at z; cases z) (fun z => z.elim (fun z => by rw [e4] at z; cases z) (fun z => z.elim nn (ile_nlt.mp hle))))] at k
  subst e1; subst e2
  rw [cl40 (by omega), cl40 (by omega)] at k
  have hln := (hR.2.2.2.2.1.1 (1, 4 * u + v) (lV_1 hw)).2
  have hls := (hR.2.2.2.2.1.2.2.1 (1, 4 * u + v) (lV_1 hw)).2
  rw [lL_1] at hln hls
  have hF2 := hR.2.2.2.2.2.1 (4 * u + v) hw
  have hlen := W_len hR hJ.1 hw
  refine c_at hln (fun c hc => (hls c hc).1) (by rw [F2_len _ _ hF2]; omega) (fun hneg => ⟨fun _ => ?_, fun a z => (by cases z)⟩) (fun hnn => ?_)
  · rw [if_pos hneg] at k; exact k
  · rw [if_neg hnn] at k
    rcases F2_get _ _ i.toNatClampNeg hF2 with ⟨g1, g2⟩ | ⟨c, l, g1, g2, hlt⟩
    · rw [g1]
      rw [g2] at k
      exact ⟨fun _ => k, fun a z => (by cases z)⟩
    · rw [g1]
      rw [g2] at k
      refine ⟨fun z => (by cases z), fun a15 z => ?_⟩
      cases z
      have hc2 : xh_k σ c = 2 := (hls c (List.mem_of_getElem? g1)).1
      have hok := (hJ.1.2.1 _ l (List.mem_of_getElem? g2)).2
      have k2 : Q (z_lf S l what) := k
      unfold z_lf at k2
      have hp : ¬ l.1 = 2 → z_lp l = nI l.2.1 := fun z => by unfold z_lp; rw [if_neg z]
      unfold wp_X1_whatLetter
      rcases hlt with ⟨l1, l2, l3, l4, l5⟩ | ⟨l1, l2, l3, l4, l5⟩ | ⟨l1, ⟨l2, l3, l4, l5⟩, l6, l7, l8, l9⟩
      · -- a message
        have hp1 : l.2.1 < z_N S 1 := zLok_lt hok (by omega)
        have e0 : z_lk l = 0 := by unfold z_lk; rw [l1]; rfl
        have c3 := hR.2.2.1.2.1 l.2.1 hp1
        have c4 := hR.2.2.2.1.2.1 l.2.1 hp1
        have h64 : xh_R σ 64 c = some (gM g l.2.1 + 1) := by rw [l2]; exact c3.2.2.2.2.1
        have h65 : xh_I σ 65 c = z_F S 17 l.2.1 := by rw [l2]; exact rI hR 17 l.2.1 (by decide) hp1
        have h66 : xh_I σ 66 c = z_F S 18 l.2.1 := by rw [l2]; exact rI hR 18 l.2.1 (by decide) hp1
        rw [e0, hp (by omega), if_pos l1, if_pos l1] at k2
        rw [l3, h64, h65, h66, l4, l5]
        refine ⟨fun e => ⟨hc2, fun _ => ⟨fun z => (by cases z), fun a z => ?_⟩, fun z => absurd rfl z⟩, fun n0 => ⟨fun e => ⟨hc2, fun z => (by cases z), fun a24 z => ?_⟩, fun n1 => ⟨fun e => ⟨hc2, fun _ => ?_, fun z => absurd rfl z⟩, fun n2 => ⟨fun e => ⟨hc2, fun _ => ?_, fun z => absurd rfl z⟩, fun n3 => ⟨fun e => ⟨hc2, fun _ => ⟨fun z => ?_, fun a37 z => ?_⟩, fun z => absurd rfl z⟩, fun n4 => ⟨hc2, fun _ => ⟨fun z => ?_, fun a43 z => ?_⟩, fun z => absurd rfl z⟩⟩⟩⟩⟩⟩
        · rw [if_pos e] at k2; exact k2
        · cases z
          rw [if_neg n0, if_pos e] at k2
          rw [c3.2.1]
          exact ⟨c4.2.1, k2⟩
        · rw [if_neg n0, if_neg n1, if_pos e] at k2; exact k2
        · rw [if_neg n0, if_neg n1, if_neg n2, if_pos e] at k2; exact k2
        · rw [if_neg n0, if_neg n1, if_neg n2, if_neg n3, if_pos e] at k2
          cases et : l.2.2.1 with
          | none => rw [et] at k2; exact k2
          | some t => rw [et] at z; cases z
        · rw [if_neg n0, if_neg n1, if_neg n2, if_neg n3, if_pos e] at k2
          cases et : l.2.2.1 with
          | none => rw [et] at z; cases z
          | some t =>
            rw [et] at z k2
            have ea : gT g t = a37 := by
              have : some (gT g t) = some a37 := z
              exact Option.some.inj this
            subst ea
            have ht : t < z_N S 0 := by
              rcases hok with ⟨-, -, -, -, k5, -⟩ | ⟨c, -⟩ | ⟨c, -⟩ | ⟨c, -⟩
              · rcases k5 with ⟨t2, z1, z2, z3⟩ | ⟨q, z1, z2, z3, z4⟩
                · rw [et] at z2; cases z2; exact z1
                · rw [et] at z2; cases z2
              · omega
              · omega
              · omega
            rw [(hR.2.2.1.1 t ht).2.1]
            exact ⟨(hR.2.2.2.1.1 t ht).1, k2⟩
        · rw [if_neg n0, if_neg n1, if_neg n2, if_neg n3, if_neg n4] at k2
          cases et : l.2.2.2.1 with
          | none => rw [et] at k2; exact k2
          | some t => rw [et] at z; cases z
        · rw [if_neg n0, if_neg n1, if_neg n2, if_neg n3, if_neg n4] at k2
          cases et : l.2.2.2.1 with
          | none => rw [et] at z; cases z
          | some q =>
            rw [et] at z k2
            have ea : gM g q + 1 = a43 := by
              have : some (gM g q + 1) = some a43 := z
              exact Option.some.inj this
            subst ea
            have hq : q < z_N S 1 := by
              rcases hok with ⟨-, -, -, -, k5, -⟩ | ⟨c, -⟩ | ⟨c, -⟩ | ⟨c, -⟩
              · rcases k5 with ⟨t2, z1, z2, z3⟩ | ⟨q2, z1, z2, z3, z4⟩
                · rw [et] at z3; cases z3
                · rw [et] at z3; cases z3; exact z1
              · omega
              · omega
              · omega
            rw [(hR.2.2.1.2.1 q hq).2.1]
            exact ⟨(hR.2.2.2.1.2.1 q hq).2.1, k2⟩
      · have hp1 : l.2.1 < z_N S 1 := zLok_lt hok (by omega)
        have e0 : z_lk l = 1 := by
          unfold z_lk
          rcases l1 with z | z
          · rw [z]; rfl
          · rw [if_pos z]
        have hno : l.2.2.1 = none ∧ l.2.2.2.1 = none := by
          rcases hok with ⟨c, -⟩ | ⟨-, -, -, -, -, c6, c7, -⟩ | ⟨-, -, -, -, -, -, -, c8, c9, -⟩ | ⟨c, -⟩
          · omega
          · exact ⟨c6, c7⟩
          · exact ⟨c8, c9⟩
          · omega
        have c3 := hR.2.2.1.2.1 l.2.1 hp1
        have c4 := hR.2.2.2.1.2.1 l.2.1 hp1
        have h64 : xh_R σ 64 c = some (gM g l.2.1 + 1) := by rw [l2]; exact c3.2.2.2.2.1
        have m0 : ¬ l.1 = 0 := by omega
        have m2 : ¬ l.1 = 2 := by omega
        rw [e0, hp m2, if_neg m0, if_neg m2, if_neg m0, if_neg m2, hno.1, hno.2] at k2
        rw [l3, h64, l4, l5]
        refine ⟨fun e => ⟨hc2, fun z => absurd z (by decide), fun _ => ?_⟩, fun n0 => ⟨fun e => ⟨hc2, fun z => (by cases z), fun a24 z => ?_⟩, fun n1 => ⟨fun e => ⟨hc2, fun z => absurd z (by decide), fun _ => ?_⟩, fun n2 => ⟨fun e => ⟨hc2, fun z => absurd z (by decide), fun _ => ?_⟩, fun n3 => ⟨fun e => ⟨hc2, fun z => absurd z (by decide), fun _ => ?_⟩, fun n4 => ⟨hc2, fun z => absurd z (by decide), fun _ => ?_⟩⟩⟩⟩⟩⟩
        · rw [if_pos e] at k2; exact k2
        · cases z
          rw [if_neg n0, if_pos e] at k2
          rw [c3.2.1]
          exact ⟨c4.2.1, k2⟩
        · rw [if_neg n0, if_neg n1, if_pos e] at k2; exact k2
        · rw [if_neg n0, if_neg n1, if_neg n2, if_pos e] at k2; exact k2
        · rw [if_neg n0, if_neg n1, if_neg n2, if_neg n3, if_pos e] at k2; exact k2
        · rw [if_neg n0, if_neg n1, if_neg n2, if_neg n3, if_neg n4] at k2; exact k2
      · have e0 : z_lk l = 2 := by unfold z_lk; rw [l1]; rfl
        have ep : z_lp l = -9 := by unfold z_lp; rw [if_pos l1]
        obtain ⟨⟨t, ht, et⟩, epr⟩ : (∃ t, t < z_N S 0 ∧ l.2.2.1 = some t) ∧ l.2.2.2.1 = none := by
          rcases hok with ⟨c, -⟩ | ⟨c, -⟩ | ⟨c, -⟩ | ⟨-, -, c3, c4, -⟩
          · omega
          · omega
          · omega
          · exact ⟨c3, c4⟩
        rw [e0, ep, if_neg (show ¬ l.1 = 0 by omega), if_pos l1, if_neg (show ¬ l.1 = 0 by omega), if_pos l1, et, epr] at k2
        rw [l7, l2, l3, l4, l8, l9, et]
        refine ⟨fun e => ⟨hc2, fun _ => ⟨fun _ => ?_, fun a z => (by cases z)⟩, fun z => absurd rfl z⟩, fun n0 => ⟨fun e => ⟨hc2, fun _ => ?_, fun a24 z => (by cases z)⟩, fun n1 => ⟨fun e => ⟨hc2, fun _ => ?_, fun z => absurd rfl z⟩, fun n2 => ⟨fun e => ⟨hc2, fun _ => ?_, fun z => absurd rfl z⟩, fun n3 => ⟨fun e => ⟨hc2, fun _ => ⟨fun z => (by cases z), fun a37 z => ?_⟩, fun z => absurd rfl z⟩, fun n4 => ⟨hc2, fun _ => ⟨fun z => ?_, fun a43 z => (by cases z)⟩, fun z => absurd rfl z⟩⟩⟩⟩⟩⟩
        · rw [if_pos e] at k2; exact k2
        · rw [if_neg n0, if_pos e] at k2; exact k2
        · rw [if_neg n0, if_neg n1, if_pos e] at k2; exact k2
        · rw [if_neg n0, if_neg n1, if_neg n2, if_pos e] at k2; exact k2
        · have ea : gT g t = a37 := by
            have : some (gT g t) = some a37 := z
            exact Option.some.inj this
          subst ea
          rw [if_neg n0, if_neg n1, if_neg n2, if_neg n3, if_pos e] at k2
          rw [(hR.2.2.1.1 t ht).2.1]
          exact ⟨(hR.2.2.2.1.1 t ht).1, k2⟩
        · rw [if_neg n0, if_neg n1, if_neg n2, if_neg n3, if_neg n4] at k2; exact k2
