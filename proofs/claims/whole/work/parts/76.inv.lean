/-! The two at once: one state -/
def zINV (x m : Nat) (κ : Nat) (σ τ : xS) : Prop := ∃ S g B c, c ≤ 100 * κ ∧ RC x σ S g B ∧ zRM m τ S 0 c ∧ zJ S
theorem zq_RC {x : Nat} {σ : xS} {S : zS} {g : zG} {B : Nat → List Nat} {n : Nat} (h : RC x σ S g B) : RC x σ (zs_N S 9 n) g B := by
  refine RC_S h (fun _ _ _ => rfl) (fun i hi => ?_) rfl rfl rfl rfl rfl rfl
  show va_up (z_N S) 9 n i = _
  unfold va_up
  rw [if_neg (by omega)]
theorem zq_RM {m : Nat} {τ : xS} {S : zS} {c n : Nat} (h : zRM m τ S 0 c) : zRM m (yN τ n) (zs_N S 9 n) 0 c := by
  obtain ⟨⟨d1, d2, d3, d4, d5, d6, d7⟩, ⟨fl, hl⟩, hkk, hq⟩ := h
  exact ⟨⟨⟨⟨d1.1.1, rfl⟩, d1.2⟩, d2, d3, d4, d5, d6, d7⟩, ⟨fl, zMl_congr hl (fun _ _ _ _ => rfl) rfl rfl⟩, zMk_congr hkk (fun _ => rfl) (fun _ => rfl) rfl rfl rfl rfl (fun _ => rfl), zMq_congr hq (fun _ _ _ _ => rfl) rfl rfl⟩
theorem zq_J {S : zS} {n : Nat} (h : zJ S) : zJ (zs_N S 9 n) := ⟨h.1, h.2.1, h.2.2⟩
theorem zq_fin {x m κ : Nat} {σ2 τ2 : xS} {T : zS} {g2 : zG} {B2 : Nat → List Nat} {c2 : Nat} (R2 : RC x σ2 T g2 B2) (R3 : zRM m τ2 (zs_N T 9 (xh_n σ2)) 0 c2) (hJ : zJ T) (hc : c2 ≤ 100 * (κ + 1)) : zINV x m (κ + 1) (yN σ2 (xh_n τ2)) τ2 := by
  have e : xh_n τ2 = xh_n σ2 := R3.1.1.1.2
  rw [e]
  exact ⟨zs_N T 9 (xh_n σ2), g2, B2, c2, hc, zq_RC R2, R3, zq_J hJ⟩
theorem zq_ops {x m : Nat} : yOps x m (zINV x m) := by
  refine ⟨fun κ σ τ h => ?_, fun κ σ τ n h => ?_, fun κ σ τ l1 l2 l3 hκ h => ?_, fun κ σ τ l1 l2 l3 l4 hb hκ h => ?_, fun κ σ τ l1 l2 hb hκ h => ?_, fun κ σ τ l1 hκ h => ?_, fun κ σ τ l1 l2 hκ h => ?_, fun κ σ τ l1 l2 hκ h => ?_, fun κ σ τ l1 l2 l3 l4 l5 l6 hκ h => ?_, fun κ σ τ l1 l2 l3 hκ h => ?_, fun κ σ τ l1 l2 l3 hκ h => ?_, fun κ σ τ l1 l2 hκ h => ?_, fun κ σ τ l1 l2 hκ h => ?_, fun κ σ τ l1 hκ h => ?_, fun κ σ τ l1 l2 hκ h => ?_, fun κ σ τ l1 l2 hκ h => ?_, fun κ σ τ l1 l2 hκ h => ?_, fun κ σ τ l1 l2 l3 l4 hκ h => ?_, fun κ σ τ hκ h => ?_, fun κ σ τ l1 hκ h => ?_, fun κ σ τ hκ h => ?_⟩
  · obtain ⟨S, g, B, c, hc, hR, hM, hJ⟩ := h
    exact ⟨hR.1.1, hM.1.1.1.1⟩
  · obtain ⟨S, g, B, c, hc, hR, hM, hJ⟩ := h
    exact ⟨zs_N S 9 n, g, B, c, by omega, zq_RC hR, zq_RM hM, zq_J hJ⟩
  · obtain ⟨S, g, B, c, hc, hR, hM, hJ⟩ := h
    refine c_thingOp hR hJ (fun σ2 g2 B2 R2 => m_thing (zq_RM hM) (zq_J hJ) (fun τ2 R3 => ?_))
    rw [zq_oThing] at R3 ⊢
    exact ⟨rfl, zq_fin R2 R3 (J_thing hJ).1 (by omega)⟩
  · obtain ⟨S, g, B, c, hc, hR, hM, hJ⟩ := h
    refine c_guardOp hR hJ (fun σ2 g2 B2 R2 => m_guardOp (zq_RM hM) (zq_J hJ) (fun τ2 R3 => ?_))
    rw [zq_oGuard] at R3 ⊢
    exact ⟨rfl, zq_fin R2 R3 (J_guard hJ).1 (by omega)⟩
  · obtain ⟨S, g, B, c, hc, hR, hM, hJ⟩ := h
    refine c_shutOp hR hJ hb (fun σ2 g2 B2 R2 => m_shutOp (zq_RM hM) (zq_J hJ) hb (fun τ2 R3 => ?_))
    rw [zq_oShut] at R3 ⊢
    exact ⟨rfl, zq_fin R2 R3 (J_shut hJ).1 (by omega)⟩
  · obtain ⟨S, g, B, c, hc, hR, hM, hJ⟩ := h
    refine c_backOp hR hJ (fun σ2 g2 B2 R2 => m_backOp (zq_RM hM) (zq_J hJ) (fun τ2 R3 => ?_))
    rw [zq_oBack] at R3 ⊢
    exact ⟨rfl, zq_fin R2 R3 (J_back hJ).1 (by omega)⟩
  · obtain ⟨S, g, B, c, hc, hR, hM, hJ⟩ := h
    refine c_wakeOp hR hJ (fun σ2 g2 B2 R2 => m_wakeOp (by omega) (zq_RM hM) (zq_J hJ) (fun τ2 R3 => ?_))
    rw [zq_oWake] at R3 ⊢
    exact ⟨rfl, zq_fin R2 R3 (J_wake hJ).1 (by omega)⟩
  · obtain ⟨S, g, B, c, hc, hR, hM, hJ⟩ := h
    exact c_aboutOp hR hJ (m_aboutOp (zq_RM hM) (zq_J hJ) rfl)
  · obtain ⟨S, g, B, c, hc, hR, hM, hJ⟩ := h
    refine c_askOp hR hJ (fun σ2 g2 B2 R2 => m_askOp (by omega) (zq_RM hM) (zq_J hJ) (fun τ2 R3 => ?_))
    rw [zq_oAsk] at R3 ⊢
    exact ⟨rfl, zq_fin R2 R3 (J_ask hJ).1 (by omega)⟩
  · obtain ⟨S, g, B, c, hc, hR, hM, hJ⟩ := h
    refine c_whenOp hR hJ (fun σ2 g2 B2 R2 => m_whenOp (zq_RM hM) (zq_J hJ) (fun τ2 R3 => ?_))
    rw [zq_oWhen] at R3 ⊢
    exact ⟨rfl, zq_fin R2 R3 (J_when hJ).1 (by omega)⟩
  · obtain ⟨S, g, B, c, hc, hR, hM, hJ⟩ := h
    exact c_stateOp hR hJ (m_stateOp (zq_RM hM) (zq_J hJ) rfl)
  · obtain ⟨S, g, B, c, hc, hR, hM, hJ⟩ := h
    exact c_promiseOp hR hJ (m_promiseOp (zq_RM hM) (zq_J hJ) rfl)
  · obtain ⟨S, g, B, c, hc, hR, hM, hJ⟩ := h
    refine c_deliverOp hR hJ (fun σ2 g2 B2 R2 => m_deliverOp (by omega) (zq_RM hM) (zq_J hJ) (fun τ2 c2 h1 h2 R3 => ?_))
    rw [zq_oDeliver] at R3 ⊢
    exact ⟨rfl, zq_fin R2 R3 (J_deliver hJ).1 (by omega)⟩
  · obtain ⟨S, g, B, c, hc, hR, hM, hJ⟩ := h
    refine c_flowOp hR hJ (fun σ2 g2 B2 R2 => m_flowOp (by omega) (zq_RM hM) (zq_J hJ) (fun τ2 c2 h1 h2 R3 => ?_))
    rw [zq_oFlow hJ.1] at R3 ⊢
    exact ⟨rfl, zq_fin R2 R3 (J_flow hJ).1 (by omega)⟩
  · obtain ⟨S, g, B, c, hc, hR, hM, hJ⟩ := h
    refine c_cutOp hR hJ (fun σ2 g2 B2 R2 => m_cutOp (by omega) (zq_RM hM) (zq_J hJ) (fun τ2 R3 => ?_))
    rw [zq_oCut] at R3 ⊢
    exact ⟨rfl, zq_fin R2 R3 (J_cut hJ).1 (by omega)⟩
  · obtain ⟨S, g, B, c, hc, hR, hM, hJ⟩ := h
    refine c_againOp hR hJ (fun σ2 g2 B2 R2 => m_againOp (zq_RM hM) (zq_J hJ) (fun τ2 R3 => ?_))
    rw [zq_oAgain] at R3 ⊢
    exact ⟨rfl, zq_fin R2 R3 (J_again hJ).1 (by omega)⟩
  · obtain ⟨S, g, B, c, hc, hR, hM, hJ⟩ := h
    exact c_wireOp hR hJ (m_wireOp (zq_RM hM) (zq_J hJ) rfl)
  · obtain ⟨S, g, B, c, hc, hR, hM, hJ⟩ := h
    exact c_letterOp hR hJ (m_letterOp (zq_RM hM) (zq_J hJ) rfl)
  · obtain ⟨S, g, B, c, hc, hR, hM, hJ⟩ := h
    exact c_pursesOp hR hJ (m_pursesOp (zq_RM hM) (zq_J hJ) rfl)
  · obtain ⟨S, g, B, c, hc, hR, hM, hJ⟩ := h
    exact c_countOp hR hJ (m_countOp (zq_RM hM) (zq_J hJ) rfl)
  · obtain ⟨S, g, B, c, hc, hR, hM, hJ⟩ := h
    exact c_traceOp hR (m_traceOp (zq_RM hM) rfl)
