def zHd (l : List Nat) : Int32 := match l with
  | [] => -1
  | p :: _ => nI p
theorem m_first {m : Nat} {τ : xS} {N t c : Nat} {how : Int32} {kb sn wh : Nat → Nat} {F16 : Nat → Int32} {L : List Nat} {Q : Int32 → Prop}
    (hN : xh_I τ 457 m = nI N) (hN1 : N ≤ 100) (hF : ∀ p, xh_a τ (m + 16) p = F16 p) (hk : ∀ p, xh_a τ (m + 21) p = nI (kb p) ∧ xh_a τ (m + 22) p = nI (sn p)) (hkb : ∀ p, kb p < 1000) (ht : t < 1000) (hsn : ∀ p ∈ L, sn p < c) (hc : c < 2 ^ 31)
    (hL : ∀ p, p ∈ L ↔ p < N ∧ F16 p = how ∧ kb p = t) (hP : L.Pairwise (fun a b => sn a < sn b)) (k : Q (zHd L)) : wp_X7_firstKept τ m how (nI t) Q := by
  have key : ∀ (n j : Nat) (b : Int32), j ≤ N → N < j + n → ((b = -1 ∧ ∀ q, q < j → q ∉ L) ∨ (∃ b0, b = nI b0 ∧ b0 < j ∧ b0 ∈ L ∧ ∀ q, q < j → q ∈ L → sn b0 ≤ sn q)) → wb_X7_firstKept_5 Q τ m n how (nI t) b (nI j) := by
    intro n
    induction n with
    | zero => intro j b h1 h2; omega
    | succ n ih =>
      intro j b h1 h2 hb
      have hjc : (nI j).toNatClampNeg = j := nI_clamp (by omega)
      have hj1 : nI j + 1 = nI (j + 1) := nI_1 j
      unfold wb_X7_firstKept_5
      refine ⟨fun hc1 => ?_, fun hc1 => ?_⟩
      · rw [hN, nI_leI (by omega) (by omega)] at hc1
        have hjN : j = N := by omega
        subst hjN
        have hin : ∀ q, q ∈ L → q < j := fun q hq => ((hL q).mp hq).1
        rcases hb with ⟨hb1, hb2⟩ | ⟨b0, hb1, hb2, hb3, hb4⟩
        · have : L = [] := List.eq_nil_iff_forall_not_mem.mpr (fun q hq => hb2 q (hin q hq) hq)
          rw [this] at k
          rw [hb1]; exact k
        · cases L with
          | nil => exact absurd hb3 List.not_mem_nil
          | cons a l =>
            have : a = b0 := by
              rcases List.mem_cons.mp hb3 with z | z
              · exact z.symm
              · have h5 := (List.pairwise_cons.mp hP).1 b0 z
                have h6 := hb4 a (hin a List.mem_cons_self) List.mem_cons_self
                omega
            rw [hb1, ← this]; exact k
      · rw [hN, nI_leI (by omega) (by omega)] at hc1
        have hjN : j < N := by omega
        have hv : vp_in (nI j) 100 := vpI (by omega)
        have hmem : j ∈ L ↔ F16 j = how ∧ kb j = t := by rw [hL j]; exact ⟨fun z => z.2, fun z => ⟨hjN, z⟩⟩
        have hno : j ∉ L → wb_X7_firstKept_73 Q (fun l1 l2 l3 l4 => wb_X7_firstKept_5 Q τ m n l1 l2 l3 l4) τ m how (nI t) b (nI j) := by
          intro hj
          unfold wb_X7_firstKept_73 wb_X7_firstKept_74
          rw [hj1]
          refine ih (j + 1) b (by omega) (by omega) ?_
          rcases hb with ⟨hb1, hb2⟩ | ⟨b0, hb1, hb2, hb3, hb4⟩
          · refine Or.inl ⟨hb1, fun q hq => ?_⟩
            by_cases z : q = j
            · rw [z]; exact hj
            · exact hb2 q (by omega)
          · refine Or.inr ⟨b0, hb1, by omega, hb3, fun q hq hqL => ?_⟩
            by_cases z : q = j
            · rw [z] at hqL; exact absurd hqL hj
            · exact hb4 q (by omega) hqL
        have hyes : j ∈ L → (b = -1 ∨ ∃ b0, b = nI b0 ∧ b0 < j ∧ b0 ∈ L ∧ ∀ q, q < j → q ∈ L → sn b0 ≤ sn q) → (∀ q, q < j → q ∈ L → sn j ≤ sn q) → wb_X7_firstKept_68 Q (fun l1 l2 l3 l4 => wb_X7_firstKept_5 Q τ m n l1 l2 l3 l4) τ m how (nI t) (nI j) := by
          intro hj _ hm
          unfold wb_X7_firstKept_68 wb_X7_firstKept_74
          rw [hj1]
          refine ih (j + 1) (nI j) (by omega) (by omega) (Or.inr ⟨j, rfl, by omega, hj, fun q hq hqL => ?_⟩)
          by_cases z : q = j
          · rw [z]; exact Nat.le_refl _
          · exact hm q (by omega) hqL
        have h40 : j ∉ L → wb_X7_firstKept_40 Q (fun l1 l2 l3 l4 => wb_X7_firstKept_5 Q τ m n l1 l2 l3 l4) τ m how (nI t) b (nI j) := by
          intro hj
          unfold wb_X7_firstKept_40 wb_X7_firstKept_41
          exact ⟨fun _ => hno hj, fun z => absurd rfl z⟩
        refine ⟨hv, ?_⟩
        rw [hjc, hF]
        refine ⟨fun hw => ⟨hv, ?_⟩, fun hw => h40 (fun z => hw (hmem.mp z).1)⟩
        rw [(hk j).1, nI_eq (Nat.lt_of_lt_of_le (hkb j) (by decide)) (by omega)]
        refine ⟨fun hk2 => ?_, fun hk2 => h40 (fun z => hk2 (hmem.mp z).2)⟩
        have hjL : j ∈ L := hmem.mpr ⟨hw, hk2⟩
        unfold wb_X7_firstKept_41
        refine ⟨fun z => absurd z (by decide), fun _ => ?_⟩
        rcases hb with ⟨hb1, hb2⟩ | ⟨b0, hb1, hb2, hb3, hb4⟩
        · refine ⟨fun _ => hyes hjL (Or.inl hb1) (fun q hq hqL => absurd hqL (hb2 q hq)), fun z => absurd (by rw [hb1]; decide) z⟩
        · have hb0 : (nI b0).toNatClampNeg = b0 := nI_clamp (by omega)
          refine ⟨fun z => absurd z (by rw [hb1]; exact nI_pos (by omega)), fun _ => ⟨hv, by rw [hb1]; exact vpI (by omega), ?_⟩⟩
          rw [hb1, hb0, hjc, (hk b0).2, (hk j).2, nI_leI (by have := hsn b0 hb3; omega) (by have := hsn j hjL; omega)]
          refine ⟨fun z => ?_, fun z => ?_⟩
          · unfold wb_X7_firstKept_73 wb_X7_firstKept_74
            rw [hj1]
            refine ih (j + 1) (nI b0) (by omega) (by omega) (Or.inr ⟨b0, rfl, by omega, hb3, fun q hq hqL => ?_⟩)
            by_cases y : q = j
            · rw [y]; exact z
            · exact hb4 q (by omega) hqL
          · refine hyes hjL (Or.inr ⟨b0, hb1, hb2, hb3, hb4⟩) (fun q hq hqL => ?_)
            have := hb4 q hq hqL
            omega
  unfold wp_X7_firstKept
  refine ⟨N + 1, ?_⟩
  have := key (N + 1) 0 (-1) (by omega) (by omega) (Or.inl ⟨rfl, fun q hq => absurd hq (Nat.not_lt_zero _)⟩)
  rw [nI_0] at this
  exact this
theorem m_firstH {m : Nat} {τ : xS} {S : zS} {k0 c t : Nat} {Q : Int32 → Prop} (h : zRM m τ S k0 c) (hN : z_N S 1 ≤ 100) (hc : c < 2 ^ 31) (ht : t < 1000) (k : Q (zHd (z_H S t))) : wp_X7_firstKept τ m 1 (nI t) Q := by
  obtain ⟨⟨d1, d2, d3⟩, -, ⟨kb, sn, h1, h2, h3, h4, h5, h6, h7, h8⟩, -⟩ := h
  exact m_first (N := z_N S 1) (F16 := z_F S 16) (L := z_H S t) (c := c) (wh := kb) d3.2.1 hN (fun p => d2 16 p (by unfold zDK; omega)) h1 (fun p => (h8 p).1) ht (fun p hp => by have := (h3 t p).mp hp; exact h7 p this.1 (Or.inl this.2.1)) hc (h3 t) (h5 t) k
theorem m_firstQ {m : Nat} {τ : xS} {S : zS} {k0 c t : Nat} {Q : Int32 → Prop} (h : zRM m τ S k0 c) (hN : z_N S 1 ≤ 100) (hc : c < 2 ^ 31) (ht : t < 1000) (k : Q (zHd (z_Q S t))) : wp_X7_firstKept τ m 2 (nI t) Q := by
  obtain ⟨⟨d1, d2, d3⟩, -, ⟨kb, sn, h1, h2, h3, h4, h5, h6, h7, h8⟩, -⟩ := h
  exact m_first (N := z_N S 1) (F16 := z_F S 16) (L := z_Q S t) (c := c) (wh := kb) d3.2.1 hN (fun p => d2 16 p (by unfold zDK; omega)) h1 (fun p => (h8 p).1) ht (fun p hp => by have := (h4 t p).mp hp; exact h7 p this.1 (Or.inr this.2.1)) hc (h4 t) (h6 t) k
