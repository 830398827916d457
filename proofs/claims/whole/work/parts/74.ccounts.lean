/-! The class's sums and counts -/
theorem zq_moved {x : Nat} {σ : xS} {S : zS} {g : zG} {B : Nat → List Nat} {w : Nat} {Q : Int64 → Prop} (hR : RC x σ S g B) (hJ : zJ S) (hw : w < 16) (k : Q (zsm ((z_W S w).map (z_lv S)))) : wp_X6_movedBy σ (x + 6 + 2 * w) Q := by
  have b := hJ.1.1.1
  have hln := (hR.2.2.2.2.1.1 (1, w) (lV_1 hw)).2
  have hls := (hR.2.2.2.2.1.2.2.1 (1, w) (lV_1 hw)).2
  rw [lL_1] at hln hls
  have hF2 := hR.2.2.2.2.2.1 w hw
  have hlen := W_len hR hJ.1 hw
  have k6 := hR.2.2.2.1.2.2.2.1 w hw
  have h322 := (hR.2.2.1.2.2.2 w hw).2.2.2
  have hin : ∀ l, l ∈ z_W S w → zLok S w l := fun l hl => (hJ.1.2.1 w l hl).2
  have key : ∀ (bs : List Nat) (ls : List zL) (s : Int64) (i : Nat), i + ls.length = (z_W S w).length → zF2 (zLt σ S g) bs ls → zCh σ bs → (∀ c ∈ bs, xh_k σ c = 2) → (∀ l ∈ ls, zLok S w l) → Q (s + zsm (ls.map (z_lv S))) → wb_X6_movedBy_13 Q σ (ls.length + 1) (x + 6 + 2 * w) s bs.head? (nI i) := by
    intro bs
    induction bs with
    | nil =>
      intro ls s i hi hf hc hk hok kk
      cases ls with
      | nil =>
        have e0 : s + zsm (([] : List zL).map (z_lv S)) = s := Int64.add_zero s
        rw [e0] at kk
        unfold wb_X6_movedBy_13
        exact ⟨k6.1, x + 7 + 2 * w, h322, k6.2, fun _ => kk, fun _ => ⟨fun _ => kk, fun a z => (by cases z)⟩⟩
      | cons l ls => exact absurd hf id
    | cons c bs ih =>
      intro ls s i hi hf hc hk hok kk
      cases ls with
      | nil => exact absurd hf id
      | cons l ls =>
        have hi2 : i + (ls.length + 1) = (z_W S w).length := by simpa using hi
        rw [List.map_cons, sm_cons, ← Int64.add_assoc] at kk
        have hkc := hk c List.mem_cons_self
        have fin : wb_X6_movedBy_46 Q (fun l0 l1 l3 l4 => wb_X6_movedBy_13 Q σ (ls.length + 1) l0 l1 l3 l4) σ (x + 6 + 2 * w) c (nI i) s (z_lv S l) := by
          refine ⟨hkc, ?_⟩
          rw [hc.1, nI_1]
          exact ih ls (s + z_lv S l) (i + 1) (by omega) hf.2 hc.2 (fun d hd => hk d (List.mem_cons_of_mem _ hd)) (fun d hd => hok d (List.mem_cons_of_mem _ hd)) kk
        have hl := hok l List.mem_cons_self
        have val : (xh_R σ 70 c = none ∧ z_lv S l = 0) ∨ (∃ a12, xh_R σ 70 c = some a12 ∧ z_lv S l = (xh_I σ 66 c).toInt64) := by
          rcases hf.1 with ⟨l1, l2, -⟩ | ⟨l1, l2, -⟩ | ⟨l1, ⟨-, -, -, l5⟩, -⟩
          · have hp : l.2.1 < z_N S 1 := zLok_lt hl (by omega)
            have h70 := (hR.2.2.1.2.1 l.2.1 hp).2.2.2.2.2.1
            have h66 : xh_I σ 66 (gM g l.2.1) = z_F S 18 l.2.1 := rI hR 18 l.2.1 (by decide) hp
            rw [l2, h70, h66]
            unfold z_lv
            rcases hJ.1.2.2.2.2.2.2.2.2.2.2.1 l.2.1 hp with hneg | ⟨-, t, ht, et⟩
            · exact Or.inl ⟨zO_neg hneg, if_neg (fun z => z.2 hneg)⟩
            · refine Or.inr ⟨gT g t, by rw [et, zO_nI (by omega)], if_pos ⟨l1, by rw [et]; exact nneg (by omega)⟩⟩
          · have hp : l.2.1 < z_N S 1 := zLok_lt hl (by omega)
            have h16 : z_F S 16 l.2.1 = 0 := by
              rcases hl with ⟨c, -⟩ | ⟨-, -, c3, -⟩ | ⟨-, -, c3, -⟩ | ⟨c, -⟩
              · omega
              · exact c3
              · exact c3
              · omega
            have h70 := (hR.2.2.1.2.1 l.2.1 hp).2.2.2.2.2.1
            rw [l2, h70]
            unfold z_lv
            rcases hJ.1.2.2.2.2.2.2.2.2.2.2.1 l.2.1 hp with hneg | ⟨z, -⟩
            · exact Or.inl ⟨zO_neg hneg, if_neg (fun z => z.2 hneg)⟩
            · rw [h16] at z; exact absurd z (by decide)
          · refine Or.inl ⟨l5, ?_⟩
            unfold z_lv
            rw [if_neg (by omega)]
        unfold wb_X6_movedBy_13
        refine ⟨k6.1, x + 7 + 2 * w, h322, k6.2, ?_⟩
        rw [hlen.1, nle (by omega) (by omega)]
        refine ⟨fun z => absurd z (by omega), fun _ => ⟨fun z => (by cases z), fun a8 z => ?_⟩⟩
        cases z
        rcases val with ⟨v1, v2⟩ | ⟨a12, v1, v2⟩
        · rw [v2] at fin
          rw [v1]
          exact ⟨hkc, fun _ => fin, fun a z => (by cases z)⟩
        · rw [v2] at fin
          rw [v1]
          exact ⟨hkc, fun z => (by cases z), fun a z => fin⟩
  unfold wp_X6_movedBy
  refine ⟨k6.1, x + 7 + 2 * w, h322, k6.2, (z_W S w).length + 1, ?_⟩
  have := key (B w) (z_W S w) 0 0 (by omega) hF2 hln.2.2.2 (fun c hc => (hls c hc).1) hin (by rw [Int64.zero_add]; exact k)
  rw [nI_0, ← hln.1] at this
  exact this
theorem c_pursesOp {x : Nat} {σ : xS} {S : zS} {g : zG} {B : Nat → List Nat} {Q : Int64 → Prop} (hR : RC x σ S g B) (hJ : zJ S) (k : Q (zo_purses S)) : wp_X6_purses σ x Q := by
  have b := hJ.1.1.1
  have key2 : ∀ (s : Int64) (n u : Nat), u ≤ 16 → 16 < u + n → Q (s + zsm ((List.range 16).map (fun w => zsm ((z_W S w).map (z_lv S))))) → wb_X6_purses_50 Q σ x n (s + zsm ((List.range u).map (fun w => zsm ((z_W S w).map (z_lv S))))) (nI u) := by
    intro s n
    induction n with
    | zero => intro u h1 h2; omega
    | succ n ih =>
      intro u hu1 hu2 kk
      unfold wb_X6_purses_50
      rw [show (16 : Int32) = nI 16 from rfl, nle (by omega) (by omega)]
      refine ⟨fun z => ?_, fun z => ⟨vpI (by omega), ?_⟩⟩
      · have : u = 16 := by omega
        rw [this]; exact kk
      · have hu : u < 16 := by omega
        rw [cl40 (by omega), (hR.2.2.1.2.2.2 u hu).1]
        refine ⟨fun z => (by cases z), fun a4 z => ⟨vpI (by omega), ?_⟩⟩
        cases z
        refine zq_moved hR hJ hu ?_
        have fin := ih (u + 1) (by omega) (by omega) kk
        rw [rng_snoc, sm_snoc, ← Int64.add_assoc, ← nI_1] at fin
        exact fin
  have key1 : ∀ (n u : Nat), u ≤ z_N S 0 → z_N S 0 < u + n → wb_X6_purses_4 Q σ x n (zsm ((List.range u).map (z_tv S))) (nI u) := by
    intro n
    induction n with
    | zero => intro u h1 h2; omega
    | succ n ih =>
      intro u hu1 hu2
      unfold wb_X6_purses_4
      rw [hR.1.2.1, nle (by omega) (by omega)]
      refine ⟨fun z => ?_, fun z => ?_⟩
      · have : u = z_N S 0 := by omega
        rw [this]
        refine ⟨17, ?_⟩
        have h5 := key2 (zsm ((List.range (z_N S 0)).map (z_tv S))) 17 0 (by omega) (by omega) k
        rw [show zsm ((List.range 0).map (fun w => zsm ((z_W S w).map (z_lv S)))) = 0 from rfl, Int64.add_zero, nI_0] at h5
        exact h5
      · have hu : u < z_N S 0 := by omega
        have fin := ih (u + 1) (by omega) (by omega)
        rw [rng_snoc, sm_snoc, ← nI_1] at fin
        unfold z_tv at fin
        obtain ⟨t1, t2, t3, t4, t5⟩ := k_of hR hu
        refine c_thing hR b.1 (fun e => by rw [ix_nI hu] at e; cases e) (fun u2 hu2 e1 e2 => ⟨fun z => (by cases z), fun a13 z => ?_⟩)
        cases z
        have eu : u2 = u := ((nI_eq (by omega) (by omega)).mp e1).symm
        subst eu
        rw [t5, t2]
        refine ⟨t1, fun y => ?_, fun y => ?_⟩
        · rw [if_pos y] at fin; exact fin
        · rw [if_neg y, Int64.add_zero] at fin; exact fin
  refine ⟨z_N S 0 + 1, ?_⟩
  exact key1 (z_N S 0 + 1) 0 (by omega) (by omega)
theorem zq_sum {f : Nat → Nat} {n : Nat} : ((List.range (n + 1)).map f).sum = ((List.range n).map f).sum + f n := by
  rw [rng_snoc, List.sum_append]; simp
theorem c_countOp {x : Nat} {σ : xS} {S : zS} {g : zG} {B : Nat → List Nat} {what : Int32} {Q : Int32 → Prop} (hR : RC x σ S g B) (hJ : zJ S) (k : Q (zo_count S what)) : wp_X6_count σ x what Q := by
  have b := hJ.1.1.1
  unfold zo_count at k
  unfold wp_X6_count
  refine ⟨fun e => ?_, fun n0 => ⟨fun e => ?_, fun n1 => ⟨fun e => ?_, fun n2 => ⟨fun e => ?_, fun n3 => ⟨fun e => ?_, fun n4 => ⟨fun e => ?_, fun n5 => ⟨fun e => ?_, fun n6 => ⟨fun e => ?_, fun n7 => ⟨fun e => ?_, fun n8 => ?_⟩⟩⟩⟩⟩⟩⟩⟩⟩
  · rw [if_pos e] at k; rw [hR.1.2.1]; exact k
  · rw [if_neg n0, if_pos e] at k; rw [hR.1.2.2.1]; exact k
  · rw [if_neg n0, if_neg n1, if_pos e] at k
    let P : Nat → Bool := fun p => z_F S 11 p == 0
    have key : ∀ (n j : Nat), j ≤ z_N S 1 → z_N S 1 < j + n → wb_X6_openAtHome_4 (fun x4 => Q x4) σ x n (nI ((List.range j).filter P).length) (nI j) := by
      intro n
      induction n with
      | zero => intro j h1 h2; omega
      | succ n ih =>
        intro j hj1 hj2
        unfold wb_X6_openAtHome_4
        rw [hR.1.2.2.1, nle (by omega) (by omega)]
        refine ⟨fun z => ?_, fun z => ?_⟩
        · have : j = z_N S 1 := by omega
          rw [this]; exact k
        · have hj : j < z_N S 1 := by omega
          have fin := ih (j + 1) (by omega) (by omega)
          rw [rng_len, ← nI_1] at fin
          have h11 : xh_I σ 133 (gM g j + 1) = z_F S 11 j := rI hR 11 j (by decide) hj
          refine c_promise hR b.2.1 (fun e => by rw [ix_nI hj] at e; cases e) (fun j2 hj2' e1 e2 => ⟨fun z => (by cases z), fun a7 z => ?_⟩)
          cases z
          have eu : j2 = j := ((nI_eq (by omega) (by omega)).mp e1).symm
          subst eu
          rw [h11]
          unfold wb_X6_openAtHome_34 wb_X6_openAtHome_35 wp_X6_oneIf
          refine ⟨(hR.2.2.2.1.2.1 j2 hj).2.1, fun y => ⟨fun z => absurd z (by decide), fun _ => ?_⟩, fun y => ⟨fun _ => ?_, fun z => absurd rfl z⟩⟩
          · rw [if_pos (show P j2 = true from by simp [P, y])] at fin
            show wb_X6_openAtHome_4 (fun x4 => Q x4) σ x n (nI ((List.range j2).filter P).length + 1) (nI j2 + 1)
            rw [nI_1 ((List.range j2).filter P).length]; exact fin
          · rw [if_neg (show ¬ P j2 = true from by simp [P, y])] at fin
            show wb_X6_openAtHome_4 (fun x4 => Q x4) σ x n (nI ((List.range j2).filter P).length + 0) (nI j2 + 1)
            rw [Int32.add_zero]; exact fin
    refine ⟨z_N S 1 + 1, ?_⟩
    exact key (z_N S 1 + 1) 0 (by omega) (by omega)
  · rw [if_neg n0, if_neg n1, if_neg n2, if_pos e] at k
    have ecnt : z_cnt S = ((List.range 16).map (fun w => (z_W S w).length)).sum := by unfold z_cnt; rw [List.sum_eq_foldl]
    have key : ∀ (n j : Nat), j ≤ 16 → 16 < j + n → wb_X6_lettersUnderWay_4 (fun x7 => Q x7) σ x n (nI ((List.range j).map (fun w => (z_W S w).length)).sum) (nI j) := by
      intro n
      induction n with
      | zero => intro j h1 h2; omega
      | succ n ih =>
        intro j hj1 hj2
        unfold wb_X6_lettersUnderWay_4
        rw [show (16 : Int32) = nI 16 from rfl, nle (by omega) (by omega)]
        refine ⟨fun z => ?_, fun z => ⟨vpI (by omega), ?_⟩⟩
        · have : j = 16 := by omega
          rw [this, ← ecnt]; exact k
        · have hj : j < 16 := by omega
          have fin := ih (j + 1) (by omega) (by omega)
          rw [zq_sum, ← nI_add, ← nI_1] at fin
          rw [cl40 (by omega), (hR.2.2.1.2.2.2 j hj).1]
          refine ⟨fun z => (by cases z), fun a4 z => ⟨vpI (by omega), ?_⟩⟩
          cases z
          refine ⟨(hR.2.2.2.1.2.2.2.1 j hj).1, x + 7 + 2 * j, (hR.2.2.1.2.2.2 j hj).2.2.2, (hR.2.2.2.1.2.2.2.1 j hj).2, ?_⟩
          rw [(W_len hR hJ.1 hj).1]
          exact fin
    refine ⟨17, ?_⟩
    exact key 17 0 (by omega) (by omega)
  · rw [if_neg n0, if_neg n1, if_neg n2, if_neg n3, if_pos e] at k; rw [hR.1.2.2.2.1]; exact k
  · rw [if_neg n0, if_neg n1, if_neg n2, if_neg n3, if_neg n4, if_pos e] at k
    let P : Nat → Bool := fun w => !(z_F S 36 w == 0) && decide (w / 4 < w % 4)
    have key : ∀ (n j : Nat), j ≤ 16 → 16 < j + n → wb_X6_wiresCut_4 (fun x11 => Q x11) σ x n (nI ((List.range j).filter P).length) (nI j) := by
      intro n
      induction n with
      | zero => intro j h1 h2; omega
      | succ n ih =>
        intro j hj1 hj2
        unfold wb_X6_wiresCut_4
        rw [show (16 : Int32) = nI 16 from rfl, nle (by omega) (by omega)]
        refine ⟨fun z => ?_, fun z => ⟨vpI (by omega), ?_⟩⟩
        · have : j = 16 := by omega
          rw [this]; exact k
        · have hj : j < 16 := by omega
          have fin := ih (j + 1) (by omega) (by omega)
          rw [rng_len, ← nI_1] at fin
          obtain ⟨a1, a2, a3, a4⟩ := hR.2.2.1.2.2.2 j hj
          have h36 : xh_I σ 323 (x + 6 + 2 * j) = z_F S 36 j := rI hR 36 j (by decide) hj
          rw [cl40 (by omega), a1]
          refine ⟨fun z => (by cases z), fun a6 z => ?_⟩
          cases z
          rw [h36, a2, a3, nle (by omega) (by omega)]
          unfold wb_X6_wiresCut_47 wb_X6_wiresCut_48 wp_X6_oneIf wb_X6_oneIf_9
          refine ⟨(hR.2.2.2.1.2.2.2.1 j hj).1, fun y => ⟨fun _ => ?_, fun z => absurd rfl z⟩, fun y => ⟨fun x' => ⟨fun _ => ?_, fun z => absurd rfl z⟩, fun x' => ⟨fun z => absurd z (by decide), fun _ => ?_⟩⟩⟩
          · rw [if_neg (show ¬ P j = true from by simp [P, y])] at fin
            rw [Int32.add_zero]; exact fin
          · rw [if_neg (show ¬ P j = true from by simp [P]; omega)] at fin
            rw [Int32.add_zero]; exact fin
          · rw [if_pos (show P j = true from by simp [P, y]; omega)] at fin
            rw [nI_1]; exact fin
    refine ⟨17, ?_⟩
    exact key 17 0 (by omega) (by omega)
  · rw [if_neg n0, if_neg n1, if_neg n2, if_neg n3, if_neg n4, if_neg n5, if_pos e] at k
    have key : ∀ (n j : Nat), j ≤ z_N S 0 → z_N S 0 < j + n → wb_X6_messagesHeld_4 (fun x14 => Q x14) σ x n (nI ((List.range j).map (fun t => (z_H S t).length)).sum) (nI j) := by
      intro n
      induction n with
      | zero => intro j h1 h2; omega
      | succ n ih =>
        intro j hj1 hj2
        unfold wb_X6_messagesHeld_4
        rw [hR.1.2.1, nle (by omega) (by omega)]
        refine ⟨fun z => ?_, fun z => ?_⟩
        · have : j = z_N S 0 := by omega
          rw [this]; exact k
        · have hj : j < z_N S 0 := by omega
          have fin := ih (j + 1) (by omega) (by omega)
          rw [zq_sum, ← nI_add, ← nI_1] at fin
          refine c_thing hR b.1 (fun e => by rw [ix_nI hj] at e; cases e) (fun j2 hj2' e1 e2 => ⟨fun z => (by cases z), fun a5 z => ?_⟩)
          cases z
          have eu : j2 = j := ((nI_eq (by omega) (by omega)).mp e1).symm
          subst eu
          have hsz : xh_I σ 2 (gT g j2 + 1) = nI (z_H S j2).length := by
            have := (hR.2.2.2.2.1.1 (2, j2) (lV_2 hj)).2.2.2.1
            rw [lL_2, List.length_map] at this
            exact this
          refine ⟨(hR.2.2.2.1.1 j2 hj).1, gT g j2 + 1, (hR.2.2.1.1 j2 hj).2.2.2, (hR.2.2.2.1.1 j2 hj).2.1, ?_⟩
          rw [hsz]
          exact fin
    refine ⟨z_N S 0 + 1, ?_⟩
    exact key (z_N S 0 + 1) 0 (by omega) (by omega)
  · rw [if_neg n0, if_neg n1, if_neg n2, if_neg n3, if_neg n4, if_neg n5, if_neg n6, if_pos e] at k
    have key : ∀ (n j : Nat), j ≤ z_N S 1 → z_N S 1 < j + n → wb_X6_messagesWaiting_4 (fun x17 => Q x17) σ x n (nI ((List.range j).map (fun t => (z_Q S t).length)).sum) (nI j) := by
      intro n
      induction n with
      | zero => intro j h1 h2; omega
      | succ n ih =>
        intro j hj1 hj2
        unfold wb_X6_messagesWaiting_4
        rw [hR.1.2.2.1, nle (by omega) (by omega)]
        refine ⟨fun z => ?_, fun z => ?_⟩
        · have : j = z_N S 1 := by omega
          rw [this]; exact k
        · have hj : j < z_N S 1 := by omega
          have fin := ih (j + 1) (by omega) (by omega)
          rw [zq_sum, ← nI_add, ← nI_1] at fin
          refine c_promise hR b.2.1 (fun e => by rw [ix_nI hj] at e; cases e) (fun j2 hj2' e1 e2 => ⟨fun z => (by cases z), fun a5 z => ?_⟩)
          cases z
          have eu : j2 = j := ((nI_eq (by omega) (by omega)).mp e1).symm
          subst eu
          have hsz : xh_I σ 2 (gM g j2 + 2) = nI (z_Q S j2).length := by
            have := (hR.2.2.2.2.1.1 (3, j2) (lV_3 hj)).2.2.2.1
            rw [lL_3, List.length_map] at this
            exact this
          refine ⟨(hR.2.2.2.1.2.1 j2 hj).2.1, gM g j2 + 2, (hR.2.2.1.2.1 j2 hj).2.2.2.1, (hR.2.2.2.1.2.1 j2 hj).2.2.1, ?_⟩
          rw [hsz]
          exact fin
    refine ⟨z_N S 1 + 1, ?_⟩
    exact key (z_N S 1 + 1) 0 (by omega) (by omega)
  · rw [if_neg n0, if_neg n1, if_neg n2, if_neg n3, if_neg n4, if_neg n5, if_neg n6, if_neg n7, if_pos e] at k
    rw [hR.1.2.2.2.2.1]; exact k
  · rw [if_neg n0, if_neg n1, if_neg n2, if_neg n3, if_neg n4, if_neg n5, if_neg n6, if_neg n7, if_neg n8] at k
    exact k
theorem c_traceOp {x : Nat} {σ : xS} {S : zS} {g : zG} {B : Nat → List Nat} {Q : Int64 → Prop} (hR : RC x σ S g B) (k : Q (z_r S)) : wp_X6_trace σ x Q := by
  unfold wp_X6_trace
  rw [hR.1.2.2.2.2.2]
  exact k
