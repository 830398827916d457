theorem done_one1 {S : zS} {p : Nat} {st v : Int32} (hp : p < z_N S 1) (h11 : z_F S 11 p = 0) (hst : ¬ st = 0) : z_done (z_one1 S p st v) = z_done S + 1 := by
  unfold z_done
  refine filt_upd _ _ p _ hp (fun q hq => ?_) ?_ ?_
  · unfold z_one1
    rw [zF_ne (by decide), zF_eq, if_neg (fun z => hq z.2)]
  · rw [h11]; rfl
  · unfold z_one1
    rw [zF_ne (by decide), zF_eq, if_pos ⟨rfl, rfl⟩]
    simpa using hst
theorem m_one {m : Nat} {τ : xS} {S : zS} {k0 c p : Nat} {st v : Int32} {Q : xS → Prop} (hR : zRM m τ S k0 c) (hI : zI S) (hk : k0 ≤ z_done S + 1) (hf : zFree S p) (h16 : z_F S 16 p = 0) (h11 : z_F S 11 p = 0) (hz : zval S st v) (hc : c < 2 ^ 31) (k : ∀ τ2, zRM m τ2 (z_one S p st v) k0 c → Q τ2) : wp_X7_doesOne τ m (nI p) st v Q := by
  have b := hI.1.1
  have hp := hf.1
  have hv : vp_in (nI p) 100 := vpI (by omega)
  have hpc : (nI p).toNatClampNeg = p := cl40 (by omega)
  obtain ⟨ha, ⟨hm1, hm4⟩, -⟩ := hI.1.2.2.1 p hp
  obtain ⟨i1, ⟨i2, f2, n2, r2, e2, w2, t2⟩, ⟨i3, n3, r3, e3⟩, -⟩ := I_one hI hf h16 h11 hz
  have hst := zval_ne hz
  have b81 : ∀ τ1, zRM m τ1 (z_one3 S p st v) k0 c → wb_X7_doesOne_81 Q τ1 m (nI p) st v := by
    intro τ1 hR1
    unfold wb_X7_doesOne_81
    refine ⟨hv, ?_⟩
    rw [hpc, rdF hR1 (k := 10), r3 10 (Or.inr rfl), hm1]
    have q2 : z_hm (z_one3 S p st v) p = z_hm S p := by unfold z_hm; rw [r3 10 (Or.inr rfl)]
    refine m_pws hR1 i3 (by rw [n3]; exact hp) hm4 ?_ k
    rw [q2, if_pos rfl, e3, if_pos rfl]
    exact hst
  have key : ∀ (l : List Nat) (n : Nat) (τ1 : xS) (S1 : zS), l.length < n → zRM m τ1 S1 k0 c → zI S1 → z_Q S1 p = l → z_N S1 = z_N S → (∀ k, k = 9 ∨ k = 10 → z_F S1 k = z_F S k) → k0 ≤ z_done S1 → z_gos S1 l (z_hm S p) st v = z_one2 S p st v → wb_X7_doesOne_22 Q m n τ1 (nI p) st v (zHd l) := by
    intro l
    induction l with
    | nil =>
      intro n τ1 S1 hn hR1 hI1 hQ hN hr hk1 hg
      cases n with
      | zero => exact absurd hn (Nat.not_lt_zero _)
      | succ n =>
        have e : S1 = z_one2 S p st v := hg
        unfold wb_X7_doesOne_22
        refine ⟨fun _ => ⟨hv, hv, ?_⟩, fun z => absurd (by decide) z⟩
        rw [hpc, rdF hR1 (k := 9), rdF hR1 (k := 10), hr 9 (Or.inl rfl), hr 10 (Or.inr rfl)]
        rw [e] at hR1
        refine ⟨fun z => b81 τ1 ?_, fun z => ⟨hv, ?_⟩⟩
        · unfold z_one3; rw [if_pos z]; exact hR1
        · rw [hm1]
          refine m_ansA hR1 i2 f2 (by rw [e2, if_pos rfl]; exact hst) hm4 (fun τ2 hR2 => b81 τ2 ?_)
          unfold z_one3; rw [if_neg z]; exact hR2
    | cons a l ih =>
      intro n τ1 S1 hn hR1 hI1 hQ hN hr hk1 hg
      cases n with
      | zero => exact absurd hn (Nat.not_lt_zero _)
      | succ n =>
        have hain : a ∈ z_Q S1 p := by rw [hQ]; exact List.mem_cons_self
        obtain ⟨f1, f2b, f3⟩ := free_of_Q hI1 hain
        have hF := zFr_go (p := a) (S := S1) (h := z_hm S p) (st := st) (v := v)
        have hz1 : zval S1 st v := zval_congr hz hN
        have hI2 := I_go hI1 f1 f3 f2b hz1 hm4
        have ha1 : a < z_N S1 1 := f1.1
        have hQ1 : z_Q (z_go S1 a (z_hm S p) st v) p = l := by
          rw [HQ_go.2]
          show (z_Q S1 p).filter _ = l
          rw [hQ]
          exact drop_head (by rw [← hQ]; exact hI1.2.2.2.2.2.2.2.1.1 p)
        have hN1 : z_N (z_go S1 a (z_hm S p) st v) = z_N S := hF.1.trans hN
        unfold wb_X7_doesOne_22
        refine ⟨fun z => absurd z (nI_pos (by rw [hN] at ha1; omega)), fun _ => ⟨hv, ?_⟩⟩
        rw [hpc, rdF hR1 (k := 10), hr 10 (Or.inr rfl), hm1]
        refine m_go hR1 hI1 hk1 f1 f2b hz1 hm4 (fun τ2 hR2 => ?_)
        refine m_firstQ hR2 (by rw [hN1]; omega) hc (by omega) ?_
        rw [hQ1]
        refine ih n τ2 _ (by simpa using hn) hR2 hI2 hQ1 hN1 (fun k hk2 => ?_) (done_le hk1 (by rw [hF.1]) (fun q => by rw [hF.2.1 11 (by omega) (by omega) (by omega) (by omega) (by omega) (by omega) (by omega)])) hg
        rw [hF.2.1 k (by omega) (by omega) (by omega) (by omega) (by omega) (by omega) (by omega)]
        exact hr k hk2
  unfold wp_X7_doesOne
  refine ⟨hv, ?_⟩
  rw [hpc]
  intro τ1 e1
  have hR1 : zRM m τ1 (zs_F S 11 p st) k0 c := by rw [e1]; exact m_F hR (by unfold zDK; omega) (by omega)
  refine ⟨hv, ?_⟩
  intro τ2 e2b
  have hR2 : zRM m τ2 (z_one1 S p st v) k0 c := by rw [e2b]; exact m_F hR1 (by unfold zDK; omega) (by omega)
  refine m_firstQ hR2 (by show z_N S 1 ≤ 100; omega) hc (by omega) ⟨(z_Q S p).length + 1, ?_⟩
  exact key (z_Q S p) _ τ2 (z_one1 S p st v) (by omega) hR2 i1 rfl rfl (fun k hk2 => by rcases hk2 with rfl | rfl <;> rfl) (by rw [done_one1 hp h11 hst]; exact hk) rfl
theorem I_pop {S : zS} {d : Nat × Int32 × Int32} {ds : List (Nat × Int32 × Int32)} (hI : zI S) (e : z_D S = d :: ds) : zI (zs_D S ds) ∧ zFree (zs_D S ds) d.1 ∧ z_F S 16 d.1 = 0 ∧ z_F S 11 d.1 = 0 ∧ zval S d.2.1 d.2.2 := by
  obtain ⟨hv, ha, hb, hc, hd, he, hg, hh, hi, hj, hk, hm⟩ := hI
  have hd1 : d ∈ z_D S := by rw [e]; exact List.mem_cons_self
  obtain ⟨a1, a2, a3, a4, a5⟩ := hc.1 d hd1
  have hnd := hc.2
  rw [e, List.map_cons, List.nodup_cons] at hnd
  exact ⟨⟨hv, ha, hb, ⟨fun d2 h2 => hc.1 d2 (by rw [e]; exact List.mem_cons_of_mem _ h2), hnd.2⟩, hd, he, hg, hh, hi, hj, hk, hm⟩, ⟨a1, a5, hnd.1⟩, a2, a3, a4⟩
theorem done_step {S : zS} {p : Nat} {st v : Int32} {S2 : zS} (hp : p < z_N S 1) (h11 : z_F S 11 p = 0) (hst : ¬ st = 0) (hN : z_N S2 = z_N S) (hF : ∀ q, z_F S2 11 q = if q = p then st else z_F S 11 q) : z_done S2 = z_done S + 1 := by
  rw [← done_one1 (v := v) hp h11 hst]
  refine done_congr (by rw [hN]; rfl) (fun q => ?_)
  rw [hF]
  unfold z_one1
  rw [zF_ne (by decide), zF_eq]
  by_cases e : q = p
  · simp [e]
  · simp [e]
theorem done_max {S : zS} (hI : zI S) : z_done S ≤ 100 := by have := zI_due hI; omega
/-- all is done in the end, within the fuel -/
theorem I_all : ∀ (n : Nat) (S : zS), zI S → 100 < z_done S + n → zI (z_all n S) ∧ z_D (z_all n S) = [] ∧ z_N (z_all n S) = z_N S := by
  intro n
  induction n with
  | zero => intro S hI h; have := done_max hI; omega
  | succ n ih =>
    intro S hI h
    unfold z_all
    cases e : z_D S with
    | nil => exact ⟨hI, e, rfl⟩
    | cons d ds =>
      obtain ⟨i1, f1, w1, o1, v1⟩ := I_pop hI e
      obtain ⟨-, -, -, i4, n4, f4⟩ := I_one i1 f1 w1 o1 v1
      have hd := done_step (v := d.2.2) f1.1 o1 (zval_ne v1) n4 f4
      have hd0 : z_done (zs_D S ds) = z_done S := done_congr rfl (fun _ => rfl)
      obtain ⟨j1, j2, j3⟩ := ih (z_one (zs_D S ds) d.1 d.2.1 d.2.2) i4 (by omega)
      exact ⟨j1, j2, j3.trans n4⟩
theorem m_all {m : Nat} {c : Nat} {Q : xS → Prop} (hc : c < 2 ^ 31) : ∀ (n : Nat) (S : zS) (τ : xS) (k0 : Nat), zRM m τ S k0 c → zI S → k0 ≤ z_done S → 100 < z_done S + n → (∀ τ2, zRM m τ2 (z_all n S) 0 c → Q τ2) → ∀ f, n ≤ f → wb_X7_doesAll_2 Q m f τ (nI k0) := by
  intro n
  induction n with
  | zero => intro S τ k0 hR hI h1 h2; have := done_max hI; omega
  | succ n ih =>
    intro S τ k0 hR hI h1 h2 k f hf
    obtain ⟨f', rfl⟩ : ∃ f', f = f' + 1 := ⟨f - 1, by omega⟩
    have hb := zI_due hI
    have q1 := hR.2.2.2.1
    have q2 := hR.2.2.2.2
    unfold z_all at k
    cases e : z_D S with
    | nil =>
      rw [e] at q1 k
      unfold wb_X7_doesAll_2
      refine ⟨fun _ => ?_, fun z => absurd (by rw [q1]; exact Int32.le_refl _) z⟩
      intro τ2 e2
      refine k τ2 ?_
      obtain ⟨A, L, W, I⟩ := st_I e2
      obtain ⟨⟨d1, d2, d3, d4, d5, d6, d7⟩, ⟨fl, hl⟩, hkk, -⟩ := hR
      have hI2 : ∀ g, g ≠ 489 → xh_I τ2 g m = xh_I τ g m := fun g hg => by rw [I, if_neg hg]
      refine ⟨⟨⟨W d1.1, by rw [hI2 _ (by omega)]; exact d1.2⟩, fun k2 i hk2 => by rw [A]; exact d2 k2 i hk2, by rw [hI2 _ (by omega)]; exact d3, by rw [hI2 _ (by omega)]; exact d4, by rw [hI2 _ (by omega)]; exact d5, by rw [hI2 _ (by omega)]; exact d6, by rw [L]; exact d7⟩, ⟨fl, zMl_congr hl (fun _ _ _ _ => by rw [A]) (hI2 _ (by omega)) rfl⟩, zMk_congr hkk (fun _ => by rw [A]) (fun _ => by rw [A]) (hI2 _ (by omega)) rfl rfl rfl (fun _ => rfl), ?_, ?_⟩
      · rw [I, if_pos rfl, e]; rfl
      · intro j p st v hj
        rw [e] at hj
        simp at hj
    | cons d ds =>
      rw [e] at k
      obtain ⟨i1, f1, w1, o1, v1⟩ := I_pop hI e
      obtain ⟨-, -, -, i4, n4, f4⟩ := I_one i1 f1 w1 o1 v1
      have hd := done_step (v := d.2.2) f1.1 o1 (zval_ne v1) n4 f4
      have hd0 : z_done (zs_D S ds) = z_done S := done_congr rfl (fun _ => rfl)
      have hlen : (z_D S).length = ds.length + 1 := by rw [e]; rfl
      have hv : vp_in (nI k0) 400 := vpI (by omega)
      have hkc : (nI k0).toNatClampNeg = k0 := nI_clamp (by omega)
      have r0 : xh_a τ (m + 37) k0 = nI d.1 ∧ xh_a τ (m + 38) k0 = d.2.1 ∧ xh_a τ (m + 39) k0 = d.2.2 := q2 0 d.1 d.2.1 d.2.2 (by rw [e]; rfl)
      have hRp : zRM m τ (zs_D S ds) (k0 + 1) c := by
        obtain ⟨hd1, hl, hkk, -⟩ := hR
        refine ⟨hd1, hl, hkk, ?_, fun j p st v hj => ?_⟩
        · rw [q1, hlen]
          show nI _ = nI (k0 + 1 + ds.length)
          congr 1; omega
        · have hj2 : ds[j]? = some (p, st, v) := hj
          have := q2 (j + 1) p st v (by rw [e]; exact hj2)
          rw [show k0 + 1 + j = k0 + (j + 1) by omega]
          exact this
      unfold wb_X7_doesAll_2
      refine ⟨fun z => ?_, fun _ => ⟨hv, hv, hv, ?_⟩⟩
      · rw [q1, nI_leI (by omega) (by omega)] at z
        omega
      · rw [hkc, r0.1, r0.2.1, r0.2.2]
        refine m_one hRp i1 (by omega) f1 w1 o1 v1 hc (fun τ2 hR2 => ?_)
        rw [show nI k0 + 1 = nI (k0 + 1) from nI_1 k0]
        exact ih _ τ2 (k0 + 1) hR2 i4 (by omega) (by omega) k f' (by omega)
/-- all that is to be done is done -/
theorem m_doesAll {m : Nat} {τ : xS} {S : zS} {c : Nat} {Q : xS → Prop} (hc : c < 2 ^ 31) (hR : zRM m τ S 0 c) (hI : zI S) (k : ∀ τ2, zRM m τ2 (z_all 1000 S) 0 c → Q τ2) : wp_X7_doesAll τ m Q := by
  unfold wp_X7_doesAll
  refine ⟨1000, ?_⟩
  have := m_all hc 1000 S τ 0 hR hI (Nat.zero_le _) (by omega) k 1000 (Nat.le_refl _)
  rw [nI_0] at this
  exact this
