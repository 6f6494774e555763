/-! one more row in the book -/
def iu (f : Nat → Int32) (p : Nat) (v : Int32) (q : Nat) : Int32 := if q = p then v else f q
def lfN (lf : Nat → Nat → Bool) (nb : Nat) (W : Nat → Bool) (r v : Nat) : Bool := if r = nb + 1 then W v else lf r v
def spA (sp : Nat → Int32) (p : Nat) (c : Int32) (q : Nat) : Int32 := if q = p then sp q + c else sp q
theorem iu_s {f : Nat → Int32} {p : Nat} {v : Int32} : iu f p v p = v := if_pos rfl
theorem iu_n {f : Nat → Int32} {p q : Nat} {v : Int32} (h : q ≠ p) : iu f p v q = f q := if_neg h
theorem nu_s {f : Nat → Nat} {p v : Nat} : nu f p v p = v := if_pos rfl
theorem nu_n {f : Nat → Nat} {p q v : Nat} (h : q ≠ p) : nu f p v q = f q := if_neg h
theorem smP_congr {who who' : Nat → Nat} {cst cst' : Nat → Int32} {p : Nat} : ∀ {r : Nat}, (∀ q, q < r → who q = who' q ∧ cst q = cst' q) → smP who cst p r = smP who' cst' p r
  | 0, _ => rfl
  | r + 1, h => by
    show smP who cst p r + _ = smP who' cst' p r + _
    rw [smP_congr (fun q hq => h q (by omega)), (h r (by omega)).1, (h r (by omega)).2]
theorem WB.wr {n np nb : Nat} {who : Nat → Nat} {lf : Nat → Nat → Bool} {sp cst : Nat → Int32} (h : WB n np nb who lf sp cst) (h40 : nb < 40) {p : Nat} (hp : p < np) {c : Int32} {W : Nat → Bool} (hW : ∀ v, 2 ^ n ≤ v → W v = false) : WB n np (nb + 1) (nu who nb p) (lfN lf nb W) (spA sp p c) (iu cst nb c) := by
  refine ⟨by omega, fun r hr => ?_, fun r v hr hv => ?_, fun q hq => ?_⟩
  · by_cases e : r = nb
    · rw [e, nu_s]; exact hp
    · rw [nu_n e]; exact h.2.1 r (by omega)
  · unfold lfN
    by_cases e : r = nb + 1
    · rw [if_pos e]; exact hW v hv
    · rw [if_neg e]; exact h.2.2.1 r v (by omega) hv
  · have e1 : smP (nu who nb p) (iu cst nb c) q nb = smP who cst q nb := smP_congr (fun r hr => ⟨nu_n (by omega), iu_n (by omega)⟩)
    have e2 : smP (nu who nb p) (iu cst nb c) q (nb + 1) = smP (nu who nb p) (iu cst nb c) q nb + (if nu who nb p nb = q then iu cst nb c nb else 0) := rfl
    rw [e2, e1, nu_s, iu_s, ← h.2.2.2 q hq]
    unfold spA
    by_cases e : q = p
    · rw [if_pos e, if_pos e.symm]
    · rw [if_neg e, if_neg (fun g => e g.symm), Int32.add_zero]
/-- the class writes a row -/
theorem X_writel {nb : Nat} {σ : ow_S} (h8 : σ.1 8 3 = nI nb) (h40 : nb < 40) {fuel : Nat} (hf : 16 < fuel) : ∃ σ', fX0_write_32_l62 fuel (nI 0) σ = some ((), σ') ∧ σ'.1 = (ow_setI σ 8 3 (nI (nb + 1))).1 ∧ (∀ c, c ≠ 11 → σ'.2 c = σ.2 c) ∧ ∀ k, σ'.2 11 k = if 16 * nb ≤ k ∧ k < 16 * nb + 16 then σ.2 33 (k - 16 * nb) else σ.2 11 k := by
  refine lp (F := fX0_write_32_l62) (Inv := fun i s => s.1 = σ.1 ∧ (∀ c, c ≠ 11 → s.2 c = σ.2 c) ∧ ∀ k, s.2 11 k = if 16 * nb ≤ k ∧ k < 16 * nb + i then σ.2 33 (k - 16 * nb) else σ.2 11 k) (Q := fun r => ∃ σ', r = some ((), σ') ∧ σ'.1 = (ow_setI σ 8 3 (nI (nb + 1))).1 ∧ (∀ c, c ≠ 11 → σ'.2 c = σ.2 c) ∧ ∀ k, σ'.2 11 k = if 16 * nb ≤ k ∧ k < 16 * nb + 16 then σ.2 33 (k - 16 * nb) else σ.2 11 k) 16 ?_ ?_ 16 0 fuel σ rfl hf ⟨rfl, fun _ _ => rfl, fun k => by rw [if_neg (by omega)]⟩
  · intro m i s hi ⟨h1, h2, h3⟩
    refine Or.inr ⟨ow_setL s 11 (16 * nb + i) (σ.2 33 i), ?_, h1, fun c hc => ?_, fun k => ?_⟩
    · have e : (s.1 8 3) * 16 + nI i = nI (16 * nb + i) := by rw [h1, h8, show (16 : Int32) = nI 16 from rfl, pk_mul, nI_add, Nat.mul_comm]
      rw [fX0_write_32_l62, if_neg (show ¬ (16 : Int32) ≤ nI i from nI_ge (b := 16) hi (by decide))]
      unfold fX8_wordAt_32
      simp only [ow_bd, ow_lt, nI_pos (show i < 2 ^ 31 by omega), if_false, show ¬ (16 : Int32) ≤ nI i from nI_ge (b := 16) hi (by decide), ow_in_nI hi (show (16 : Nat) < 2 ^ 31 by decide), if_true, nI_clamp (show i < 2 ^ 31 by omega), Option.bind_some, e, ow_in_nI (show 16 * nb + i < 640 by omega) (show (640 : Nat) < 2 ^ 31 by decide), nI_clamp (show 16 * nb + i < 2 ^ 31 by omega), nI_1, h2 33 (by decide)]
    · funext k
      rw [gL, if_neg hc, h2 c hc]
    · rw [gL, if_pos rfl]
      by_cases e : k = 16 * nb + i
      · rw [if_pos e, if_pos (by omega), e, show 16 * nb + i - 16 * nb = i by omega]
      · rw [if_neg e, h3 k]
        have : (16 * nb ≤ k ∧ k < 16 * nb + i) ↔ (16 * nb ≤ k ∧ k < 16 * nb + (i + 1)) := by omega
        simp only [this]
  · intro m s ⟨h1, h2, h3⟩
    refine ⟨ow_setI s 8 3 (nI (nb + 1)), ?_, ?_, h2, h3⟩
    · rw [fX0_write_32_l62, if_pos (show (16 : Int32) ≤ nI 16 from nI_le (Nat.le_refl 16) (by decide)), h1, h8, ← nI_succ, ltE]
    · unfold ow_setI
      rw [h1]
theorem X_isFull {nb : Nat} {σ : ow_S} (h8 : σ.1 8 3 = nI nb) (h40 : nb ≤ 40) : fX0_isFull σ = some (bi (decide (nb = 40)), σ) := by
  unfold fX0_isFull
  simp only [ow_lt, h8, is01_0, is01_1, if_true]
  by_cases c : nb = 40
  · subst c
    rw [if_neg (show ¬ nI 40 < 40 by decide)]; rfl
  · rw [if_pos (show nI nb < 40 from nI_lt (b := 40) (by omega) (by decide))]
    simp [c, bi]
theorem X_write {nb : Nat} {σ : ow_S} (h8 : σ.1 8 3 = nI nb) (h40 : nb < 40) (x0 x1 x2 x3 : Int32) : ∃ σ', fX0_write_32 x0 x1 x2 x3 σ = some ((), σ') ∧ (∀ c, c ≠ 8 → c ≠ 9 → c ≠ 10 → σ'.1 c = σ.1 c) ∧ σ'.1 8 3 = nI (nb + 1) ∧ (∀ k, σ'.1 9 k = if k = 3 * nb + 2 then x2 else if k = 3 * nb + 1 then x1 else if k = 3 * nb then x0 else σ.1 9 k) ∧ (∀ k, σ'.1 10 k = if k = nb then x3 else σ.1 10 k) ∧ (∀ c, c ≠ 11 → σ'.2 c = σ.2 c) ∧ ∀ k, σ'.2 11 k = if 16 * nb ≤ k ∧ k < 16 * nb + 16 then σ.2 33 (k - 16 * nb) else σ.2 11 k := by
  have hf : 16 < ow_FU := by decide
  obtain ⟨s1, a1, a2, a3, a4⟩ := X_writel (σ := ow_setI (ow_setI (ow_setI (ow_setI σ 9 (3 * nb) x0) 9 (3 * nb + 1) x1) 9 (3 * nb + 2) x2) 10 nb x3) (by rw [gIn _ (by decide), gIn _ (by decide), gIn _ (by decide), gIn _ (by decide)]; exact h8) h40 hf
  refine ⟨s1, ?_, fun c c1 c2 c3 => ?_, ?_, fun k => ?_, fun k => ?_, a3, a4⟩
  · rw [fX0_write_32, X_isFull h8 (by omega), bdS, if_pos (by rw [bi_eq0]; simp; omega)]
    simp only [h8, show (3 : Int32) = nI 3 from rfl, show (1 : Int32) = nI 1 from rfl, show (2 : Int32) = nI 2 from rfl, pk_mul, nI_add, ow_in_nI (show 3 * nb < 120 by omega) (show (120 : Nat) < 2 ^ 31 by decide), ow_in_nI (show 3 * nb + 1 < 120 by omega) (show (120 : Nat) < 2 ^ 31 by decide), ow_in_nI (show 3 * nb + 2 < 120 by omega) (show (120 : Nat) < 2 ^ 31 by decide), ow_in_nI (show nb < 40 by omega) (show (40 : Nat) < 2 ^ 31 by decide), if_true, nI_clamp (show 3 * nb < 2 ^ 31 by omega), nI_clamp (show 3 * nb + 1 < 2 ^ 31 by omega), nI_clamp (show 3 * nb + 2 < 2 ^ 31 by omega), nI_clamp (show nb < 2 ^ 31 by omega), ltE, gIn _ (show 8 ≠ 9 by decide)]
    rw [z0]
    exact a1
  · rw [a2, gIc _ _ _ _ _ c1, gIc _ _ _ _ _ c3, gIc _ _ _ _ _ c2, gIc _ _ _ _ _ c2, gIc _ _ _ _ _ c2]
  · rw [a2, gIs, if_pos rfl]
  · rw [a2, gIn _ (by decide), gIn _ (by decide), gIs, gIs, gIs]
  · rw [a2, gIn _ (by decide), gIs, gIn _ (by decide), gIn _ (by decide), gIn _ (by decide)]
theorem RX.wr {n w u tl : Nat} {tb : Nat → Nat} {np : Nat} {kn si hu : Nat → Nat} {sp : Nat → Int32} {nb : Nat} {who : Nat → Nat} {fac ans cst : Nat → Int32} {lf : Nat → Nat → Bool} {law : List aC} {σ s1 s2 s3 : ow_S} (h : RX n w u tl tb np kn si hu sp nb who fac ans cst lf law σ) (h40 : nb < 40) {p : Nat} (hp : p < np) {f a c : Int32} {W : Nat → Bool} (e1 : fX0_write_32 (nI p) f a c σ = some ((), s1)) (e2 : fX3_pay (nI p) c s1 = some ((), s2)) (e3 : xsw 33 s2 s3) (hW : wS W (s3.2 33)) : RX n w u tl tb np kn si hu (spA sp p c) (nb + 1) (nu who nb p) (iu fac nb f) (iu ans nb a) (iu cst nb c) (lfN lf nb W) law s3 := by
  obtain ⟨h1, h2, h3, h4, h5, h6, h7⟩ := h
  have h55 := h3.2.1
  obtain ⟨s1', b1, b2, b3, b4, b5, b6, b7⟩ := X_write h5.1 h40 (nI p) f a c
  have : s1 = s1' := by rw [e1] at b1; injection b1 with b1; injection b1
  subst this
  have hP1 : XP np kn si hu s1 := h3.fr (b2 3 (by decide) (by decide) (by decide)) (b2 4 (by decide) (by decide) (by decide)) (b2 5 (by decide) (by decide) (by decide)) (b2 7 (by decide) (by decide) (by decide))
  have hS1 : XS sp s1 := h4.fr (b2 6 (by decide) (by decide) (by decide))
  have e2' := X_pay hP1 hS1 hp c
  have : s2 = ow_setI s1 6 p (sp p + c) := by rw [e2] at e2'; injection e2' with e2'; injection e2'
  subst this
  have E : ∀ c, c ≠ 6 → c ≠ 8 → c ≠ 9 → c ≠ 10 → c ≠ 12 → c ≠ 13 → c ≠ 14 → s3.1 c = σ.1 c := fun c q1 q2 q3 q4 q5 q6 q7 => by rw [e3.1 c q5 q6 q7, gIc _ _ _ _ _ q1, b2 c q2 q3 q4]
  have D : ∀ c, c ≠ 11 → c ≠ 33 → s3.2 c = σ.2 c := fun c q1 q2 => by rw [e3.2 c q2, gI2, b6 c q1]
  refine ⟨h1.fr (E 0 (by decide) (by decide) (by decide) (by decide) (by decide) (by decide) (by decide)), h2.fr (E 1 (by decide) (by decide) (by decide) (by decide) (by decide) (by decide) (by decide)) (E 2 (by decide) (by decide) (by decide) (by decide) (by decide) (by decide) (by decide)), h3.fr (E 3 (by decide) (by decide) (by decide) (by decide) (by decide) (by decide) (by decide)) (E 4 (by decide) (by decide) (by decide) (by decide) (by decide) (by decide) (by decide)) (E 5 (by decide) (by decide) (by decide) (by decide) (by decide) (by decide) (by decide)) (E 7 (by decide) (by decide) (by decide) (by decide) (by decide) (by decide) (by decide)), fun q hq => ?_, ⟨?_, fun r hr => ?_⟩, ⟨fun r hr => ?_, ?_, ?_⟩, h7.fr (fun c a b => E c (by omega) (by omega) (by omega) (by omega) (by omega) (by omega) (by omega))⟩
  · rw [e3.1 6 (by decide) (by decide) (by decide), gIs]
    unfold spA
    by_cases g : q = p
    · rw [if_pos g, if_pos g, g]
    · rw [if_neg g, if_neg g]; exact hS1 q hq
  · rw [e3.1 8 (by decide) (by decide) (by decide), gIn _ (by decide)]; exact b3
  · rw [e3.1 9 (by decide) (by decide) (by decide), e3.1 10 (by decide) (by decide) (by decide), gIn _ (by decide), gIn _ (by decide), gIn _ (by decide), gIn _ (by decide), b4, b4, b4, b5]
    by_cases g : r = nb
    · subst g
      rw [if_neg (by omega), if_neg (by omega), if_pos rfl, if_neg (by omega), if_pos rfl, if_pos rfl, if_pos rfl, nu_s, iu_s, iu_s, iu_s]
      exact ⟨rfl, rfl, rfl, rfl⟩
    · rw [if_neg (by omega), if_neg (by omega), if_neg (by omega), if_neg (by omega), if_neg (by omega), if_neg (by omega), if_neg (by omega), if_neg (by omega), if_neg (by omega), if_neg (by omega), nu_n g, iu_n g, iu_n g, iu_n g]
      exact h5.2 r (by omega)
  · intro i hi j hj
    show wb (s3.2 11 (16 * r + i)) j = lfN lf nb W r (64 * i + j)
    rw [e3.2 11 (by decide), gI2, b7]
    unfold lfN
    rw [if_neg (show ¬ r = nb + 1 by omega)]
    by_cases g : r = nb
    · rw [if_pos (by omega), g, show 16 * nb + i - 16 * nb = i by omega]
      exact h6.2.1 i hi j hj
    · rw [if_neg (by omega)]
      exact h6.1 r (by omega) i hi j hj
  · have : lfN lf nb W (nb + 1) = W := by funext v; unfold lfN; rw [if_pos rfl]
    rw [this]; exact hW
  · have : lfN lf nb W 0 = lf 0 := by funext v; unfold lfN; rw [if_neg (by omega)]
    rw [this, D 31 (by decide) (by decide)]
    exact h6.2.2
/-- the model's next layer of worlds -/
def m22 (nb : Nat) (W : Nat → Bool) (i : Nat) (σ s : ow_S) : Prop := (∀ c, c ≠ 22 → s.1 c = σ.1 c) ∧ ∀ k, s.1 22 k = if 1024 * (nb + 1) ≤ k ∧ k < 1024 * (nb + 1) + i then bi (W (k - 1024 * (nb + 1))) else σ.1 22 k
theorem m22.st {nb i : Nat} {W : Nat → Bool} {σ s : ow_S} (h : m22 nb W i σ s) {b : Bool} (hb : b = W i) : m22 nb W (i + 1) σ (ow_setI s 22 (1024 * (nb + 1) + i) (bi b)) := by
  refine ⟨fun c hc => by rw [gIc _ _ _ _ _ hc]; exact h.1 c hc, fun k => ?_⟩
  rw [gIs]
  by_cases e : k = 1024 * (nb + 1) + i
  · rw [if_pos e, if_pos (by omega), hb, e, show 1024 * (nb + 1) + i - 1024 * (nb + 1) = i by omega]
  · rw [if_neg e, h.2 k]
    have : (1024 * (nb + 1) ≤ k ∧ k < 1024 * (nb + 1) + i) ↔ (1024 * (nb + 1) ≤ k ∧ k < 1024 * (nb + 1) + (i + 1)) := by omega
    simp only [this]
theorem m22.mw {nb i : Nat} {W : Nat → Bool} {lf : Nat → Nat → Bool} {σ s : ow_S} (h : m22 nb W i σ s) (hm : MW nb lf σ) : MW nb lf s := fun r hr v hv => by
  rw [h.2, if_neg (by omega)]
  exact hm r hr v hv
theorem M_writes {nb : Nat} {σ : ow_S} (h6 : σ.1 0 6 = nI nb) (h40 : nb < 40) {p : Nat} (hp : p < 5) (f a c : Int32) : fX10_writes (nI p) f a c σ = some ((), ow_setI (ow_setI (ow_setI (ow_setI (ow_setI (ow_setI σ 24 nb (nI p)) 25 nb f) 26 nb a) 27 nb c) 5 p (σ.1 5 p + c)) 0 6 (nI (nb + 1))) := by
  unfold fX10_writes
  simp only [ow_lt, h6, ow_in_nI h40 (show (40 : Nat) < 2 ^ 31 by decide), if_true, nI_clamp (show nb < 2 ^ 31 by omega), gIn _ (show 0 ≠ 24 by decide), gIn _ (show 0 ≠ 25 by decide), gIn _ (show 0 ≠ 26 by decide), gIn _ (show 0 ≠ 27 by decide), gIn _ (show 0 ≠ 5 by decide), gIn _ (show 5 ≠ 24 by decide), gIn _ (show 5 ≠ 25 by decide), gIn _ (show 5 ≠ 26 by decide), gIn _ (show 5 ≠ 27 by decide), ow_in_nI hp (show (5 : Nat) < 2 ^ 31 by decide), nI_clamp (show p < 2 ^ 31 by omega), nI_1]
theorem RM.wr {n w u tl : Nat} {tb : Nat → Nat} {np : Nat} {kn si hu : Nat → Nat} {sp : Nat → Int32} {nb : Nat} {who : Nat → Nat} {fac ans cst : Nat → Int32} {lf : Nat → Nat → Bool} {law : List aC} {σ s1 : ow_S} (h : RM n w u tl tb np kn si hu sp nb who fac ans cst lf law σ) (h40 : nb < 40) {p : Nat} (hp : p < 5) {f a c : Int32} {W : Nat → Bool} (q : m22 nb W 1024 σ s1) : ∃ s2, fX10_writes (nI p) f a c s1 = some ((), s2) ∧ RM n w u tl tb np kn si hu (spA sp p c) (nb + 1) (nu who nb p) (iu fac nb f) (iu ans nb a) (iu cst nb c) (lfN lf nb W) law s2 := by
  obtain ⟨h1, h2, h3, h4, h5, h6, h7⟩ := h
  have g6 : s1.1 0 6 = nI nb := by rw [q.1 0 (by decide)]; exact h5.1
  refine ⟨_, M_writes g6 h40 hp f a c, ?_⟩
  generalize hs : ow_setI (ow_setI (ow_setI (ow_setI (ow_setI (ow_setI s1 24 nb (nI p)) 25 nb f) 26 nb a) 27 nb c) 5 p (s1.1 5 p + c)) 0 6 (nI (nb + 1)) = s2
  have E0 : ∀ k, k ≠ 6 → s2.1 0 k = σ.1 0 k := fun k hk => by rw [← hs, c0 _ _ _ _ hk, gIn _ (by decide), gIn _ (by decide), gIn _ (by decide), gIn _ (by decide), gIn _ (by decide), q.1 0 (by decide)]
  have E : ∀ c, c ≠ 0 → c ≠ 5 → c ≠ 22 → c ≠ 24 → c ≠ 25 → c ≠ 26 → c ≠ 27 → s2.1 c = σ.1 c := fun c q1 q2 q3 q4 q5 q6 q7 => by rw [← hs, gIc _ _ _ _ _ q1, gIc _ _ _ _ _ q2, gIc _ _ _ _ _ q7, gIc _ _ _ _ _ q6, gIc _ _ _ _ _ q5, gIc _ _ _ _ _ q4, q.1 c q3]
  have E22 : s2.1 22 = s1.1 22 := by rw [← hs, gIc _ _ _ _ _ (by decide), gIc _ _ _ _ _ (by decide), gIc _ _ _ _ _ (by decide), gIc _ _ _ _ _ (by decide), gIc _ _ _ _ _ (by decide), gIc _ _ _ _ _ (by decide)]
  refine ⟨h1.fr (E0 2 (by decide)) (E0 4 (by decide)) (E0 5 (by decide)), h2.fr (E0 1 (by decide)) (E 1 (by decide) (by decide) (by decide) (by decide) (by decide) (by decide) (by decide)), h3.fr (E0 3 (by decide)) (E 3 (by decide) (by decide) (by decide) (by decide) (by decide) (by decide) (by decide)) (E 2 (by decide) (by decide) (by decide) (by decide) (by decide) (by decide) (by decide)) (E 4 (by decide) (by decide) (by decide) (by decide) (by decide) (by decide) (by decide)), fun r hr => ?_, ⟨by rw [← hs, c0s], fun r hr => ?_⟩, fun r hr v hv => ?_, h7.fr (E0 11 (by decide)) (fun c a b => E c (by omega) (by omega) (by omega) (by omega) (by omega) (by omega) (by omega))⟩
  · rw [← hs, gIn _ (by decide), gIs]
    unfold spA
    by_cases g : r = p
    · rw [if_pos g, if_pos g, q.1 5 (by decide), g, h4 p hp]
    · rw [if_neg g, if_neg g, gIn _ (by decide), gIn _ (by decide), gIn _ (by decide), gIn _ (by decide), q.1 5 (by decide)]
      exact h4 r hr
  · have k24 : s2.1 24 r = if r = nb then nI p else σ.1 24 r := by rw [← hs, gIn _ (by decide), gIn _ (by decide), gIn _ (by decide), gIn _ (by decide), gIn _ (by decide), gIs, q.1 24 (by decide)]
    have k25 : s2.1 25 r = if r = nb then f else σ.1 25 r := by rw [← hs, gIn _ (by decide), gIn _ (by decide), gIn _ (by decide), gIn _ (by decide), gIs, gIn _ (by decide), q.1 25 (by decide)]
    have k26 : s2.1 26 r = if r = nb then a else σ.1 26 r := by rw [← hs, gIn _ (by decide), gIn _ (by decide), gIn _ (by decide), gIs, gIn _ (by decide), gIn _ (by decide), q.1 26 (by decide)]
    have k27 : s2.1 27 r = if r = nb then c else σ.1 27 r := by rw [← hs, gIn _ (by decide), gIn _ (by decide), gIs, gIn _ (by decide), gIn _ (by decide), gIn _ (by decide), q.1 27 (by decide)]
    rw [k24, k25, k26, k27]
    by_cases g : r = nb
    · rw [if_pos g, if_pos g, if_pos g, if_pos g, g, nu_s, iu_s, iu_s, iu_s]
      exact ⟨rfl, rfl, rfl, rfl⟩
    · rw [if_neg g, if_neg g, if_neg g, if_neg g, nu_n g, iu_n g, iu_n g, iu_n g]
      exact h5.2 r (by omega)
  · rw [E22, q.2]
    unfold lfN
    by_cases g : r = nb + 1
    · rw [if_pos (by omega), if_pos g, g, show 1024 * (nb + 1) + v - 1024 * (nb + 1) = v by omega]
    · rw [if_neg (by omega), if_neg g]
      exact h6 r (by omega) v hv
