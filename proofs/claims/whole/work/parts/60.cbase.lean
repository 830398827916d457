/-! THE CLASS'S SIDE: how its objects hold a state. Where they lie: things, messages (the promise and its line of waiting messages behind each), WHENs -/
abbrev zG : Type := (Nat → Nat) × (Nat → Nat) × (Nat → Nat)
def gT (g : zG) : Nat → Nat := g.1
def gM (g : zG) : Nat → Nat := g.2.1
def gW (g : zG) : Nat → Nat := g.2.2
def zO (g : zG) (v : Int32) : Option Nat := if v < 0 then none else some (gT g v.toNatClampNeg)
def zOT (g : zG) (o : Option Nat) : Option Nat := o.map (gT g)
def zOP (g : zG) (o : Option Nat) : Option Nat := o.map (fun p => gM g p + 1)
-- the numbers: row k of the state is a field of the class
def zck (k : Nat) : Bool := [1, 2, 3, 5, 6, 7, 9, 10, 11, 12, 13, 14, 15, 16, 17, 18, 24, 36].contains k
def kf (k : Nat) : Nat := if k = 1 then 193 else if k = 2 then 194 else if k = 3 then 198 else if k = 5 then 196 else if k = 6 then 199 else if k = 7 then 200 else if k = 9 then 129 else if k = 10 then 130 else if k = 24 then 257 else if k = 36 then 323 else if k = 15 then 75 else if k = 16 then 74 else if k = 17 then 65 else if k = 18 then 66 else k + 122
def ka (x : Nat) (g : zG) (k i : Nat) : Nat := if k ≤ 7 then gT g i else if k ≤ 14 then gM g i + 1 else if k ≤ 18 then gM g i else if k = 24 then gW g i else x + 6 + 2 * i
def kb (S : zS) (k : Nat) : Nat := if k ≤ 7 then z_N S 0 else if k ≤ 18 then z_N S 1 else if k = 24 then z_N S 2 else 16
theorem zck_lt {k : Nat} (h : zck k = true) : k < 37 := by
  unfold zck at h
  simp at h
  omega
theorem kf_inj {k k2 : Nat} (h : zck k = true) (h2 : zck k2 = true) (e : kf k = kf k2) : k = k2 := by
  have key : ∀ a, a < 37 → ∀ b, b < 37 → zck a = true → zck b = true → kf a = kf b → a = b := by decide
  exact key k (zck_lt h) k2 (zck_lt h2) h h2 e
theorem kf_rng {k : Nat} (h : zck k = true) : 64 < kf k ∧ kf k < 384 ∧ ¬ (kf k = 71 ∨ kf k = 72 ∨ kf k = 73) ∧ ¬ kf k = 192 ∧ ¬ kf k = 128 ∧ ¬ kf k = 320 ∧ ¬ kf k = 321 := by
  have key : ∀ a, a < 37 → zck a = true → 64 < kf a ∧ kf a < 384 ∧ ¬ (kf a = 71 ∨ kf a = 72 ∨ kf a = 73) ∧ ¬ kf a = 192 ∧ ¬ kf a = 128 ∧ ¬ kf a = 320 ∧ ¬ kf a = 321 := by decide
  exact key k (zck_lt h) h
def zC1 (x : Nat) (σ : xS) (S : zS) : Prop := xw6 σ x ∧ xh_I σ 389 x = nI (z_N S 0) ∧ xh_I σ 390 x = nI (z_N S 1) ∧ xh_I σ 391 x = nI (z_N S 2) ∧ xh_I σ 392 x = z_u S ∧ xh_L σ 393 x = z_r S
def zC2 (x : Nat) (σ : xS) (S : zS) (g : zG) : Prop := ∀ k i, zck k = true → i < kb S k → xh_I σ (kf k) (ka x g k i) = z_F S k i
def zC3 (x : Nat) (σ : xS) (S : zS) (g : zG) : Prop :=
  (∀ t, t < z_N S 0 → xh_q σ (x + 1) t = some (gT g t) ∧ xh_I σ 192 (gT g t) = nI t ∧ xh_R σ 195 (gT g t) = zO g (z_F S 4 t) ∧ xh_R σ 197 (gT g t) = some (gT g t + 1)) ∧
  (∀ p, p < z_N S 1 → xh_q σ (x + 2) p = some (gM g p + 1) ∧ xh_I σ 128 (gM g p + 1) = nI p ∧ xh_R σ 131 (gM g p + 1) = some (gM g p) ∧ xh_R σ 132 (gM g p + 1) = some (gM g p + 2) ∧ xh_R σ 64 (gM g p) = some (gM g p + 1) ∧ xh_R σ 70 (gM g p) = zO g (z_F S 20 p) ∧ (z_F S 17 p = 4 → xh_R σ 67 (gM g p) = zO g (z_F S 19 p))) ∧
  (∀ w, w < z_N S 2 → xh_q σ (x + 3) w = some (gW g w) ∧ xh_R σ 256 (gW g w) = some (gM g (z_F S 23 w).toNatClampNeg + 1) ∧ xh_R σ 258 (gW g w) = some (gT g (z_F S 25 w).toNatClampNeg)) ∧
  (∀ w, w < 16 → xh_q σ (x + 4) w = some (x + 6 + 2 * w) ∧ xh_I σ 320 (x + 6 + 2 * w) = nI (w / 4) ∧ xh_I σ 321 (x + 6 + 2 * w) = nI (w % 4) ∧ xh_R σ 322 (x + 6 + 2 * w) = some (x + 7 + 2 * w))
def z_used (S : zS) : Nat := 2 * z_N S 0 + 3 * z_N S 1 + z_N S 2 + z_ps S
def zC4 (x : Nat) (σ : xS) (S : zS) (g : zG) : Prop :=
  (∀ t, t < z_N S 0 → xh_k σ (gT g t) = 4 ∧ xh_k σ (gT g t + 1) = 1 ∧ gT g t + 1 < xh_n σ ∧ x + 38 ≤ gT g t) ∧
  (∀ p, p < z_N S 1 → xh_k σ (gM g p) = 2 ∧ xh_k σ (gM g p + 1) = 3 ∧ xh_k σ (gM g p + 2) = 1 ∧ gM g p + 2 < xh_n σ ∧ x + 38 ≤ gM g p) ∧
  (∀ w, w < z_N S 2 → xh_k σ (gW g w) = 5 ∧ gW g w < xh_n σ) ∧
  (∀ w, w < 16 → xh_k σ (x + 6 + 2 * w) = 6 ∧ xh_k σ (x + 7 + 2 * w) = 1) ∧ x + 38 ≤ xh_n σ ∧
  (∀ t t2, t < z_N S 0 → t2 < z_N S 0 → gT g t = gT g t2 → t = t2) ∧ (∀ p p2, p < z_N S 1 → p2 < z_N S 1 → gM g p = gM g p2 → p = p2) ∧ (∀ w w2, w < z_N S 2 → w2 < z_N S 2 → gW g w = gW g w2 → w = w2) ∧
  xh_n σ + 460 ≤ xh_m σ + z_used S
-- lines of messages
def zCh (σ : xS) : List Nat → Prop
  | [] => True
  | b :: l => xh_R σ 76 b = l.head? ∧ zCh σ l
def zLn (σ : xS) (a : Nat) (L : List Nat) : Prop := xh_R σ 0 a = L.head? ∧ xh_R σ 1 a = L.getLast? ∧ xh_I σ 2 a = nI L.length ∧ zCh σ L
def zLs (σ : xS) (A : Nat × Nat → Nat) (V : Nat × Nat → Prop) (L : Nat × Nat → List Nat) : Prop :=
  (∀ i, V i → xh_k σ (A i) = 1 ∧ zLn σ (A i) (L i)) ∧ (∀ i j, V i → V j → A i = A j → i = j) ∧ (∀ i, V i → (L i).Nodup ∧ ∀ b ∈ L i, xh_k σ b = 2 ∧ b < xh_n σ) ∧ (∀ i j b, V i → V j → b ∈ L i → b ∈ L j → i = j)
/-- what a change of lines and of loose messages may touch -/
def zFq (σ σ2 : xS) : Prop := xh_k σ2 = xh_k σ ∧ xh_n σ2 = xh_n σ ∧ xh_m σ2 = xh_m σ ∧ xh_L σ2 = xh_L σ ∧ xh_q σ2 = xh_q σ ∧ xh_z σ2 = xh_z σ ∧ (∀ f a, ¬ (f = 2 ∨ f = 71 ∨ f = 72 ∨ f = 73) → xh_I σ2 f a = xh_I σ f a) ∧ (∀ f a, ¬ (f = 0 ∨ f = 1 ∨ f = 76 ∨ f = 68 ∨ f = 69) → xh_R σ2 f a = xh_R σ f a)
theorem zFq.rf {σ : xS} : zFq σ σ := ⟨rfl, rfl, rfl, rfl, rfl, rfl, fun _ _ _ => rfl, fun _ _ _ => rfl⟩
theorem zFq.tr {σ σ2 σ3 : xS} (h : zFq σ σ2) (h2 : zFq σ2 σ3) : zFq σ σ3 := ⟨h2.1.trans h.1, h2.2.1.trans h.2.1, h2.2.2.1.trans h.2.2.1, h2.2.2.2.1.trans h.2.2.2.1, h2.2.2.2.2.1.trans h.2.2.2.2.1, h2.2.2.2.2.2.1.trans h.2.2.2.2.2.1, fun f a z => (h2.2.2.2.2.2.2.1 f a z).trans (h.2.2.2.2.2.2.1 f a z), fun f a z => (h2.2.2.2.2.2.2.2 f a z).trans (h.2.2.2.2.2.2.2 f a z)⟩
theorem xI2 {σ : xS} {f a g b : Nat} {v : Int32} : xh_I (xs_I σ f a v) g b = if g = f ∧ b = a then v else xh_I σ g b := rfl
theorem xR2 {σ : xS} {f a g b : Nat} {v : Option Nat} : xh_R (xs_R σ f a v) g b = if g = f ∧ b = a then v else xh_R σ g b := rfl
theorem fq_I {σ σ2 : xS} {f a : Nat} {v : Int32} (e : σ2 = xs_I σ f a v) (hf : f = 2 ∨ f = 71 ∨ f = 72 ∨ f = 73) : zFq σ σ2 := by
  subst e
  refine ⟨rfl, rfl, rfl, rfl, rfl, rfl, fun g b z => ?_, fun _ _ _ => rfl⟩
  rw [xI2, if_neg (fun y => z (by rw [y.1]; exact hf))]
theorem fq_R {σ σ2 : xS} {f a : Nat} {v : Option Nat} (e : σ2 = xs_R σ f a v) (hf : f = 0 ∨ f = 1 ∨ f = 76 ∨ f = 68 ∨ f = 69) : zFq σ σ2 := by
  subst e
  refine ⟨rfl, rfl, rfl, rfl, rfl, rfl, fun _ _ _ => rfl, fun g b z => ?_⟩
  rw [xR2, if_neg (fun y => z (by rw [y.1]; exact hf))]
theorem zCh_congr {σ σ2 : xS} : ∀ (L : List Nat), (∀ b ∈ L, xh_R σ2 76 b = xh_R σ 76 b) → zCh σ L → zCh σ2 L := by
  intro L
  induction L with
  | nil => intro _ _; trivial
  | cons b l ih =>
    intro h hc
    exact ⟨(h b List.mem_cons_self).trans hc.1, ih (fun a ha => h a (List.mem_cons_of_mem _ ha)) hc.2⟩
theorem zLn_congr {σ σ2 : xS} {a : Nat} {L : List Nat} (h : zLn σ a L) (h0 : xh_R σ2 0 a = xh_R σ 0 a) (h1 : xh_R σ2 1 a = xh_R σ 1 a) (h2 : xh_I σ2 2 a = xh_I σ 2 a) (h3 : ∀ b ∈ L, xh_R σ2 76 b = xh_R σ 76 b) : zLn σ2 a L := ⟨h0.trans h.1, h1.trans h.2.1, h2.trans h.2.2.1, zCh_congr L h3 h.2.2.2⟩
def zup {α : Type} (L : Nat × Nat → α) (i : Nat × Nat) (v : α) : Nat × Nat → α := fun j => if j = i then v else L j
/-- the chain, with one more behind -/
theorem zCh_snoc {σ σ2 : xS} {b : Nat} : ∀ (L : List Nat), zCh σ L → L.Nodup → b ∉ L → (∀ a ∈ L, ¬ L.getLast? = some a → xh_R σ2 76 a = xh_R σ 76 a) → (∀ a, L.getLast? = some a → xh_R σ2 76 a = some b) → xh_R σ2 76 b = none → zCh σ2 (L ++ [b]) := by
  intro L
  induction L with
  | nil => intro _ _ _ _ _ hb; exact ⟨hb, trivial⟩
  | cons a l ih =>
    intro hc hn hnb hsame hlast hb
    have hn2 := List.nodup_cons.mp hn
    cases l with
    | nil =>
      refine ⟨?_, hb, trivial⟩
      exact hlast a rfl
    | cons c l =>
      have hlast2 : (a :: c :: l).getLast? = (c :: l).getLast? := by simp [List.getLast?_cons_cons]
      refine ⟨?_, ih hc.2 hn2.2 (fun z => hnb (List.mem_cons_of_mem _ z)) (fun d hd hd2 => hsame d (List.mem_cons_of_mem _ hd) (by rw [hlast2]; exact hd2)) (fun d hd => hlast d (by rw [hlast2]; exact hd)) hb⟩
      have ha : ¬ (a :: c :: l).getLast? = some a := by
        rw [hlast2]
        intro z
        exact hn2.1 (List.mem_of_getLast? z)
      rw [hsame a List.mem_cons_self ha, hc.1]
      rfl
theorem zLs_congr {σ : xS} {A A2 : Nat × Nat → Nat} {V V2 : Nat × Nat → Prop} {L L2 : Nat × Nat → List Nat} (h : zLs σ A V L) (hV : ∀ j, V2 j → V j) (hA : ∀ j, V2 j → A2 j = A j) (hL : ∀ j, V2 j → L2 j = L j) : zLs σ A2 V2 L2 := by
  obtain ⟨h1, h2, h3, h4⟩ := h
  refine ⟨fun i hi => ?_, fun i j hi hj e => ?_, fun i hi => ?_, fun i j b hi hj b1 b2 => ?_⟩
  · rw [hA i hi, hL i hi]; exact h1 i (hV i hi)
  · rw [hA i hi, hA j hj] at e; exact h2 i j (hV i hi) (hV j hj) e
  · rw [hL i hi]; exact h3 i (hV i hi)
  · rw [hL i hi] at b1; rw [hL j hj] at b2; exact h4 i j b (hV i hi) (hV j hj) b1 b2
/-- nothing of the lines is touched -/
theorem zLs_fr {σ σ2 : xS} {A : Nat × Nat → Nat} {V : Nat × Nat → Prop} {L : Nat × Nat → List Nat} (h : zLs σ A V L) (hk : xh_k σ2 = xh_k σ) (hn : xh_n σ2 = xh_n σ) (hI : ∀ a, xh_I σ2 2 a = xh_I σ 2 a) (hR : ∀ f a, f = 0 ∨ f = 1 ∨ f = 76 → xh_R σ2 f a = xh_R σ f a) : zLs σ2 A V L := by
  obtain ⟨h1, h2, h3, h4⟩ := h
  exact ⟨fun i hi => ⟨by rw [hk]; exact (h1 i hi).1, zLn_congr (h1 i hi).2 (hR _ _ (by omega)) (hR _ _ (by omega)) (hI _) (fun b _ => hR _ _ (by omega))⟩, h2, fun i hi => ⟨(h3 i hi).1, by rw [hk, hn]; exact (h3 i hi).2⟩, h4⟩
theorem c_add {σ : xS} {A : Nat × Nat → Nat} {V : Nat × Nat → Prop} {L : Nat × Nat → List Nat} {i : Nat × Nat} {b : Nat} {Q : xS → Prop} (h : zLs σ A V L) (hi : V i) (hb : xh_k σ b = 2) (hbn : b < xh_n σ) (hnot : ∀ j, V j → b ∉ L j) (k : ∀ σ2, zFq σ σ2 → (∀ f a, f = 71 ∨ f = 72 ∨ f = 73 → xh_I σ2 f a = xh_I σ f a) → (∀ f a, f = 68 ∨ f = 69 → xh_R σ2 f a = xh_R σ f a) → zLs σ2 A V (zup L i (L i ++ [b])) → Q σ2) : wp_X0_add σ (A i) b Q := by
  obtain ⟨h1, h2, h3, h4⟩ := h
  obtain ⟨hk1, hf, hl, hs, hc⟩ := h1 i hi
  unfold wp_X0_add
  refine ⟨hb, ?_⟩
  intro σ1 e1
  have R1 : ∀ f a, xh_R σ1 f a = if f = 76 ∧ a = b then none else xh_R σ f a := fun f a => by rw [e1]; rfl
  have I1 : xh_I σ1 = xh_I σ := by rw [e1]; rfl
  have q1 : zFq σ σ1 := fq_R e1 (by omega)
  have hl1 : xh_R σ1 1 (A i) = (L i).getLast? := by rw [R1, if_neg (by omega)]; exact hl
  -- the end of both ways
  have fin : ∀ σ3, zFq σ σ3 → (xh_I σ3 = xh_I σ) → (∀ f a, f ≠ 76 → f ≠ 0 → xh_R σ3 f a = xh_R σ f a) → (∀ a, xh_R σ3 0 a = if a = A i then (L i ++ [b]).head? else xh_R σ 0 a) → (∀ a, xh_R σ3 76 a = if (L i).getLast? = some a then some b else if a = b then none else xh_R σ 76 a) → wb_X0_add_28 Q σ3 (A i) b := by
    intro σ3 q3 I3 R3 Z3 N3
    unfold wb_X0_add_28
    intro σ4 e4
    have R4 : ∀ f a, xh_R σ4 f a = if f = 1 ∧ a = A i then some b else xh_R σ3 f a := fun f a => by rw [e4]; rfl
    have I4 : xh_I σ4 = xh_I σ3 := by rw [e4]; rfl
    intro σ5 e5
    have R5 : xh_R σ5 = xh_R σ4 := by rw [e5]; rfl
    have I5 : ∀ f a, xh_I σ5 f a = if f = 2 ∧ a = A i then xh_I σ4 2 (A i) + 1 else xh_I σ4 f a := fun f a => by rw [e5]; rfl
    have q5 : zFq σ σ5 := (q3.tr (fq_R e4 (by omega))).tr (fq_I e5 (by omega))
    refine k σ5 q5 (fun f a hf2 => by rw [I5, if_neg (by omega), I4, I3]) (fun f a hf2 => by rw [R5, R4, if_neg (by omega), R3 f a (by omega) (by omega)]) ⟨fun j hj => ?_, h2, fun j hj => ?_, fun j m c hj hm hc1 hc2 => ?_⟩
    · refine ⟨by rw [q5.1]; exact (h1 j hj).1, ?_⟩
      unfold zup
      by_cases e : j = i
      · subst e
        rw [if_pos rfl]
        refine ⟨?_, ?_, ?_, ?_⟩
        · rw [R5, R4, if_neg (by omega), Z3, if_pos rfl]
        · rw [R5, R4, if_pos ⟨rfl, rfl⟩, List.getLast?_concat]
        · rw [I5, if_pos ⟨rfl, rfl⟩, I4, I3, hs, nI_1, List.length_append]; rfl
        · refine zCh_snoc (σ := σ) (L j) hc (h3 j hi).1 (hnot j hi) (fun a ha hna => ?_) (fun a ha => ?_) ?_
          · rw [R5, R4, if_neg (by omega), N3, if_neg hna, if_neg (fun z => hnot j hi (by rw [← z]; exact ha))]
          · rw [R5, R4, if_neg (by omega), N3, if_pos ha]
          · rw [R5, R4, if_neg (by omega), N3, if_neg (fun z => hnot j hi (List.mem_of_getLast? z)), if_pos rfl]
      · rw [if_neg e]
        have hA : ¬ A j = A i := fun z => e (h2 j i hj hi z)
        refine zLn_congr (h1 j hj).2 ?_ ?_ ?_ (fun a ha => ?_)
        · rw [R5, R4, if_neg (by omega), Z3, if_neg hA]
        · rw [R5, R4, if_neg (fun z => hA z.2), R3 _ _ (by omega) (by omega)]
        · rw [I5, if_neg (fun z => hA z.2), I4, I3]
        · rw [R5, R4, if_neg (by omega), N3, if_neg (fun z => e (h4 j i a hj hi ha (List.mem_of_getLast? z))), if_neg (fun z => hnot j hj (by rw [← z]; exact ha))]
    · unfold zup
      by_cases e : j = i
      · subst e
        rw [if_pos rfl]
        refine ⟨?_, fun c hc2 => ?_⟩
        · rw [List.nodup_append]
          refine ⟨(h3 j hi).1, by simp, fun a ha c hc2 => ?_⟩
          have : c = b := by simpa using hc2
          rw [this]
          exact fun z => hnot j hi (by rw [← z]; exact ha)
        · rw [q5.1, q5.2.1]
          rcases List.mem_append.mp hc2 with z | z
          · exact (h3 j hi).2 c z
          · have : c = b := by simpa using z
            rw [this]; exact ⟨hb, hbn⟩
      · rw [if_neg e, q5.1, q5.2.1]; exact h3 j hj
    · unfold zup at hc1 hc2
      have cb : ∀ j, V j → c ∈ (if j = i then L i ++ [b] else L j) → c ≠ b → c ∈ L j := fun j hj hcj hne => by
        by_cases e : j = i
        · subst e
          rw [if_pos rfl] at hcj
          rcases List.mem_append.mp hcj with z | z
          · exact z
          · exact absurd (by simpa using z) hne
        · rw [if_neg e] at hcj; exact hcj
      by_cases e : c = b
      · subst e
        have only : ∀ j, V j → c ∈ (if j = i then L i ++ [c] else L j) → j = i := fun j hj hcj => by
          by_cases e : j = i
          · exact e
          · rw [if_neg e] at hcj; exact absurd hcj (hnot j hj)
        rw [only j hj hc1, only m hm hc2]
      · exact h4 j m c hj hm (cb j hj hc1 e) (cb m hm hc2 e)
  rw [hl1]
  refine ⟨fun z => ?_, fun a6 z => ⟨?_, ?_⟩⟩
  · intro σ2 e2
    have R2 : ∀ f a, xh_R σ2 f a = if f = 0 ∧ a = A i then some b else xh_R σ1 f a := fun f a => by rw [e2]; rfl
    have hLn : L i = [] := List.getLast?_eq_none_iff.mp z
    refine fin σ2 (q1.tr (fq_R e2 (by omega))) (by rw [e2]; exact I1) (fun f a n1 n2 => ?_) (fun a => ?_) (fun a => ?_)
    · rw [R2, if_neg (by omega), R1, if_neg (by omega)]
    · rw [R2, R1, if_neg (show ¬ (0 = 76 ∧ a = b) by omega), hLn]
      simp
    · rw [R2, if_neg (by omega), R1, z]
      simp
  · have hm := List.mem_of_getLast? z
    rw [q1.1]
    exact ((h3 i hi).2 a6 hm).1
  · intro σ2 e2
    have R2 : ∀ f a, xh_R σ2 f a = if f = 76 ∧ a = a6 then some b else xh_R σ1 f a := fun f a => by rw [e2]; rfl
    refine fin σ2 (q1.tr (fq_R e2 (by omega))) (by rw [e2]; exact I1) (fun f a n1 n2 => ?_) (fun a => ?_) (fun a => ?_)
    · rw [R2, if_neg (by omega), R1, if_neg (by omega)]
    · rw [R2, if_neg (by omega), R1, if_neg (by omega)]
      by_cases e : a = A i
      · rw [if_pos e, e, hf]
        cases hL : L i with
        | nil => rw [hL] at z; simp at z
        | cons y l => rfl
      · rw [if_neg e]
    · rw [R2, R1, z]
      by_cases e : a = a6
      · simp [e]
      · have : ¬ a6 = a := fun y => e y.symm
        simp [e, this]
theorem c_take {σ : xS} {A : Nat × Nat → Nat} {V : Nat × Nat → Prop} {L : Nat × Nat → List Nat} {i : Nat × Nat} {Q : Option Nat → xS → Prop} (h : zLs σ A V L) (hi : V i) (k0 : L i = [] → Q none σ) (k1 : ∀ b l σ2, L i = b :: l → zFq σ σ2 → (∀ f a, f = 71 ∨ f = 72 ∨ f = 73 → xh_I σ2 f a = xh_I σ f a) → (∀ f a, f = 68 ∨ f = 69 → xh_R σ2 f a = xh_R σ f a) → zLs σ2 A V (zup L i l) → Q (some b) σ2) : wp_X0_take σ (A i) Q := by
  obtain ⟨h1, h2, h3, h4⟩ := h
  obtain ⟨hk1, hf, hl, hs, hc⟩ := h1 i hi
  unfold wp_X0_take
  rw [hf]
  refine ⟨fun z => k0 (List.head?_eq_none_iff.mp z), fun b z => ?_⟩
  obtain ⟨l, hL⟩ : ∃ l, L i = b :: l := by
    cases hL : L i with
    | nil => rw [hL] at z; simp at z
    | cons y l => rw [hL] at z; simp at z; rw [z]; exact ⟨l, rfl⟩
  rw [hL] at hc hs
  have hnd := (h3 i hi).1
  rw [hL] at hnd
  have hnd2 := List.nodup_cons.mp hnd
  have hbk : xh_k σ b = 2 := ((h3 i hi).2 b (by rw [hL]; exact List.mem_cons_self)).1
  refine ⟨hbk, ?_⟩
  intro σ1 e1
  have R1 : ∀ f a, xh_R σ1 f a = if f = 0 ∧ a = A i then xh_R σ 76 b else xh_R σ f a := fun f a => by rw [e1]; rfl
  have I1 : xh_I σ1 = xh_I σ := by rw [e1]; rfl
  have q1 : zFq σ σ1 := fq_R e1 (by omega)
  have h0 : xh_R σ1 0 (A i) = l.head? := by rw [R1, if_pos ⟨rfl, rfl⟩]; exact hc.1
  have fin : ∀ σ3, zFq σ σ3 → xh_I σ3 = xh_I σ → (∀ f a, f ≠ 0 → f ≠ 1 → xh_R σ3 f a = xh_R σ f a) → (∀ a, xh_R σ3 0 a = if a = A i then l.head? else xh_R σ 0 a) → (∀ a, xh_R σ3 1 a = if a = A i then l.getLast? else xh_R σ 1 a) → wb_X0_take_31 Q σ3 (A i) b := by
    intro σ3 q3 I3 R3 Z3 N3
    unfold wb_X0_take_31
    refine ⟨by rw [q3.1]; exact hbk, ?_⟩
    intro σ4 e4
    have R4 : ∀ f a, xh_R σ4 f a = if f = 76 ∧ a = b then none else xh_R σ3 f a := fun f a => by rw [e4]; rfl
    have I4 : xh_I σ4 = xh_I σ3 := by rw [e4]; rfl
    intro σ5 e5
    have R5 : xh_R σ5 = xh_R σ4 := by rw [e5]; rfl
    have I5 : ∀ f a, xh_I σ5 f a = if f = 2 ∧ a = A i then xh_I σ4 2 (A i) - 1 else xh_I σ4 f a := fun f a => by rw [e5]; rfl
    have q5 : zFq σ σ5 := (q3.tr (fq_R e4 (by omega))).tr (fq_I e5 (by omega))
    have hsub : ∀ j, V j → ∀ c, c ∈ zup L i l j → c ∈ L j := fun j hj c hcj => by
      unfold zup at hcj
      by_cases e : j = i
      · subst e; rw [if_pos rfl] at hcj; rw [hL]; exact List.mem_cons_of_mem _ hcj
      · rw [if_neg e] at hcj; exact hcj
    refine k1 b l σ5 hL q5 (fun f a hf2 => by rw [I5, if_neg (by omega), I4, I3]) (fun f a hf2 => by rw [R5, R4, if_neg (by omega), R3 f a (by omega) (by omega)]) ⟨fun j hj => ?_, h2, fun j hj => ?_, fun j m c hj hm hc1 hc2 => h4 j m c hj hm (hsub j hj c hc1) (hsub m hm c hc2)⟩
    · refine ⟨by rw [q5.1]; exact (h1 j hj).1, ?_⟩
      unfold zup
      by_cases e : j = i
      · subst e
        rw [if_pos rfl]
        refine ⟨?_, ?_, ?_, ?_⟩
        · rw [R5, R4, if_neg (by omega), Z3, if_pos rfl]
        · rw [R5, R4, if_neg (by omega), N3, if_pos rfl]
        · rw [I5, if_pos ⟨rfl, rfl⟩, I4, I3, hs, List.length_cons, nI_pred1 (by omega)]; rfl
        · refine zCh_congr l (fun a ha => ?_) hc.2
          rw [R5, R4, if_neg (fun z => hnd2.1 (by rw [← z.2]; exact ha)), R3 _ _ (by omega) (by omega)]
      · rw [if_neg e]
        have hA : ¬ A j = A i := fun z => e (h2 j i hj hi z)
        refine zLn_congr (h1 j hj).2 ?_ ?_ ?_ (fun a ha => ?_)
        · rw [R5, R4, if_neg (by omega), Z3, if_neg hA]
        · rw [R5, R4, if_neg (by omega), N3, if_neg hA]
        · rw [I5, if_neg (fun z => hA z.2), I4, I3]
        · rw [R5, R4, if_neg (fun z => e (h4 j i a hj hi ha (by rw [hL, z.2]; exact List.mem_cons_self))), R3 _ _ (by omega) (by omega)]
    · unfold zup
      by_cases e : j = i
      · subst e
        rw [if_pos rfl, q5.1, q5.2.1]
        exact ⟨hnd2.2, fun c hc2 => (h3 j hi).2 c (by rw [hL]; exact List.mem_cons_of_mem _ hc2)⟩
      · rw [if_neg e, q5.1, q5.2.1]; exact h3 j hj
  rw [h0]
  refine ⟨fun z => ?_, fun a10 z => ?_⟩
  · have hl0 : l = [] := List.head?_eq_none_iff.mp z
    intro σ2 e2
    have R2 : ∀ f a, xh_R σ2 f a = if f = 1 ∧ a = A i then none else xh_R σ1 f a := fun f a => by rw [e2]; rfl
    refine fin σ2 (q1.tr (fq_R e2 (by omega))) (by rw [e2]; exact I1) (fun f a n1 n2 => ?_) (fun a => ?_) (fun a => ?_)
    · rw [R2, if_neg (by omega), R1, if_neg (by omega)]
    · rw [R2, if_neg (by omega), R1, hc.1]; simp
    · rw [R2, hl0]
      by_cases e : a = A i
      · simp [e]
      · rw [if_neg (fun z => e z.2), if_neg e, R1, if_neg (by omega)]
  · refine fin σ1 q1 I1 (fun f a n1 n2 => ?_) (fun a => ?_) (fun a => ?_)
    · rw [R1, if_neg (by omega)]
    · rw [R1, hc.1]; simp
    · rw [R1, if_neg (by omega)]
      by_cases e : a = A i
      · rw [if_pos e, e, hl, hL]
        cases l with
        | nil => simp at z
        | cons y l => simp [List.getLast?_cons_cons]
      · rw [if_neg e]
