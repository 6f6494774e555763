/-! tells, ask -/
theorem M_tlc {n nb f : Nat} {lf : Nat → Nat → Bool} {σ : ow_S} {k0 k1 : Bool} (hn : σ.1 0 2 = nI n) (h10 : n ≤ 10) (hb : σ.1 0 6 = nI nb) (h40 : nb ≤ 40) (hW : MW nb lf σ) (hf : f < 10) {fuel : Nat} (hfu : 1024 < fuel) : fX10_tells_l105 (nI f) (bi k0) (bi k1) fuel (nI 0) (nI 0) σ = some (nI (cn (nw k0 k1 f (lf nb)) (2 ^ n)), σ) := by
  have hp := pow_le h10
  refine lp (β := Int32 × ow_S) (F := fun m i b => fX10_tells_l105 (nI f) (bi k0) (bi k1) m b.1 i b.2) (Inv := fun i b => b = (nI (cn (nw k0 k1 f (lf nb)) i), σ)) (Q := fun r => r = some (nI (cn (nw k0 k1 f (lf nb)) (2 ^ n)), σ)) (2 ^ n) ?_ ?_ (2 ^ n) 0 fuel (nI 0, σ) (Nat.zero_add _) (by omega) rfl
  · intro m i b hi h1
    subst h1
    refine Or.inr ⟨(nI (cn (nw k0 k1 f (lf nb)) (i + 1)), σ), ?_, rfl⟩
    show fX10_tells_l105 (nI f) (bi k0) (bi k1) (m + 1) (nI (cn (nw k0 k1 f (lf nb)) i)) (nI i) σ = fX10_tells_l105 (nI f) (bi k0) (bi k1) m (nI (cn (nw k0 k1 f (lf nb)) (i + 1))) (nI (i + 1)) σ
    have e : cn (nw k0 k1 f (lf nb)) (i + 1) = cn (nw k0 k1 f (lf nb)) i + (if nw k0 k1 f (lf nb) i = true then 1 else 0) := rfl
    have e2 : nw k0 k1 f (lf nb) i = (lf nb i && (if bt i f = true then k1 else k0)) := rfl
    rw [fX10_tells_l105, e, e2]
    simp only [ow_bd, ow_lt, M_worldMany hn h10, Option.bind_some, nI_ge hi (show 2 ^ n < 2 ^ 31 by omega), if_false, M_isLeftNow hb h40 hW (show i < 1024 by omega), nI_1, bi_eq0, M_has (show i < 2 ^ 31 by omega) hf]
    cases lf nb i <;> cases bt i f <;> cases k0 <;> cases k1 <;> simp [Int32.add_zero, nI_1]
  · intro m b h1
    subst h1
    show fX10_tells_l105 (nI f) (bi k0) (bi k1) (m + 1) (nI (cn (nw k0 k1 f (lf nb)) (2 ^ n))) (nI (2 ^ n)) σ = _
    rw [fX10_tells_l105]
    simp only [ow_bd, M_worldMany hn h10, Option.bind_some, nI_le (Nat.le_refl (2 ^ n)) (show 2 ^ n < 2 ^ 31 by omega), if_true]
theorem nw_top {n f : Nat} {k0 k1 : Bool} {W : Nat → Bool} (h : ∀ v, 2 ^ n ≤ v → W v = false) (v : Nat) (hv : 2 ^ n ≤ v) : nw k0 k1 f W v = false := by
  unfold nw
  rw [h v hv]; rfl
theorem M_tellsC {n w u tl : Nat} {tb : Nat → Nat} {np : Nat} {kn si hu : Nat → Nat} {sp : Nat → Int32} {nb : Nat} {who : Nat → Nat} {fac ans cst : Nat → Int32} {lf : Nat → Nat → Bool} {law : List aC} {σ : ow_S} (hM : RM n w u tl tb np kn si hu sp nb who fac ans cst lf law σ) (h10 : n ≤ 10) (h40 : nb ≤ 40) {p f a : Nat} (hp : p < np) (hf : f < n) (ha : a ≤ 2) : ∃ sm, fX10_tells (nI p) (nI f) (nI a) σ = some (nI (cn (nw (k0A law np kn si hu p f a) (k1A law np kn si hu p f a) f (lf nb)) (2 ^ n)), sm) ∧ meq σ sm := by
  have hf10 : f < 10 := by omega
  have h5 := hM.2.2.1.2.1
  have hFU : 1024 < ow_FU := by decide
  have TL : ∀ s (b0 b1 : Bool), meq σ s → fX10_tells_l105 (nI f) (bi b0) (bi b1) ow_FU (nI 0) (nI 0) s = some (nI (cn (nw b0 b1 f (lf nb)) (2 ^ n)), s) := fun s b0 b1 q => M_tlc (by rw [q.1 2 (by decide)]; exact hM.1.1) h10 (by rw [q.1 6 (by decide)]; exact hM.2.2.2.2.1.1) h40 (hM.2.2.2.2.2.1.fr (q.2 22 rfl)) hf10 hFU
  have e3 : inR 0 2 (nI a) = true := nI_inR (b := 2) (by decide) ha
  unfold k0A k1A
  rw [fX10_tells, M_isPerson hM.2.2.1.1 h5, bdS, nI_isP (by omega) hp, ltE, if_neg (show ¬ bi true = 0 by decide), M_isFact hM.1.1 h10, bdS, nI_isP (by omega) hf, if_neg (show ¬ bi true = 0 by decide), M_lies (x := nI a) (A := 0) (B := 2) (a := 0) (b := 2) rfl rfl, bdS, e3, if_neg (show ¬ bi true = 0 by decide), ltE]
  rcases (show a = 0 ∨ a = 1 ∨ a = 2 by omega) with rfl | rfl | rfl
  · refine ⟨σ, ?_, meq.rf⟩
    rw [if_neg (show ¬ nI 0 = 2 by decide), if_pos (show nI 0 = 0 by decide)]
    dsimp only
    rw [ltE, if_neg (show ¬ nI 0 = 2 by decide), if_neg (show ¬ nI 0 = 1 by decide)]
    exact TL σ true false meq.rf
  · refine ⟨σ, ?_, meq.rf⟩
    rw [if_neg (show ¬ nI 1 = 2 by decide), if_neg (show ¬ nI 1 = 0 by decide)]
    dsimp only
    rw [ltE, if_neg (show ¬ nI 1 = 2 by decide), if_pos (show nI 1 = 1 by decide)]
    exact TL σ false true meq.rf
  · obtain ⟨z1, y1, y2⟩ := M_says (v := 0) hM.2.2.2.2.2.2 hM.2.2.1 hp hf10 (by decide)
    obtain ⟨z2, y3, y4⟩ := M_says (v := 1) (hM.2.2.2.2.2.2.me y2) (hM.2.2.1.me y2) hp hf10 (by decide)
    refine ⟨z2, ?_, y2.tr y4⟩
    have y1' : fX10_saysSo (nI p) (nI f) 0 σ = _ := y1
    have y3' : fX10_saysSo (nI p) (nI f) 1 z1 = _ := y3
    rw [if_pos (show nI 2 = 2 by decide), y1', bdS]
    by_cases c0 : sy law np kn si hu p f 0 = true
    · rw [c0, if_neg (show ¬ bi true = 0 by decide)]
      dsimp only
      rw [ltE, if_pos (show nI 2 = 2 by decide), y3', bdS]
      by_cases c1 : sy law np kn si hu p f 1 = true
      · rw [c1, if_neg (show ¬ bi true = 0 by decide)]
        exact TL z2 false false (y2.tr y4)
      · rw [Bool.not_eq_true] at c1
        rw [c1, if_pos (show bi false = 0 by decide)]
        exact TL z2 false true (y2.tr y4)
    · rw [Bool.not_eq_true] at c0
      rw [c0, if_pos (show bi false = 0 by decide)]
      dsimp only
      rw [ltE, if_pos (show nI 2 = 2 by decide), y3', bdS]
      by_cases c1 : sy law np kn si hu p f 1 = true
      · rw [c1, if_neg (show ¬ bi true = 0 by decide)]
        exact TL z2 true false (y2.tr y4)
      · rw [Bool.not_eq_true] at c1
        rw [c1, if_pos (show bi false = 0 by decide)]
        exact TL z2 true true (y2.tr y4)
theorem M_tellsN {n np : Nat} {kn si hu : Nat → Nat} {σ : ow_S} (hn : σ.1 0 2 = nI n) (h10 : n ≤ 10) (hP : MP np kn si hu σ) {a1 a2 a3 : Int32} (h : isP np a1 = false ∨ isP n a2 = false ∨ inR 0 2 a3 = false) : fX10_tells a1 a2 a3 σ = some (-1, σ) := by
  rw [fX10_tells, M_isPerson hP.1 hP.2.1, bdS, ltE, M_isFact hn h10]
  by_cases c1 : isP np a1 = true
  · rw [c1, if_neg (show ¬ bi true = 0 by decide), bdS]
    by_cases c2 : isP n a2 = true
    · rw [c2, if_neg (show ¬ bi true = 0 by decide), M_lies (x := a3) (A := 0) (B := 2) (a := 0) (b := 2) rfl rfl, bdS]
      have c3 : inR 0 2 a3 = false := by
        rcases h with h | h | h
        · rw [h] at c1; cases c1
        · rw [h] at c2; cases c2
        · exact h
      rw [c3, if_pos (show bi false = 0 by decide)]
    · rw [Bool.not_eq_true] at c2
      rw [c2, if_pos (show bi false = 0 by decide)]
  · rw [Bool.not_eq_true] at c1
    rw [c1, if_pos (show bi false = 0 by decide)]
theorem ow_tells : si_tells ow_R := by
  intro σx σm a1 a2 a3 ⟨n, w, u, tl, tb, np, kn, si, hu, sp, nb, who, fac, ans, cst, lf, law, hX, hM, hW⟩
  have h40 := hW.2.2.1
  have h10 := hW.1.2.1
  have hp2 := pow_le h10
  have ht := hW.2.2.2.2.1 nb
  have hxw := hX.2.2.2.2.2.1.2.1
  have h5 := hX.2.2.1.2.1
  have hN := fun h => M_tellsN (a1 := a1) (a2 := a2) (a3 := a3) hM.1.1 h10 hM.2.2.1 h
  unfold fX9_tells
  simp only [ow_bd, ow_lt, X_has hX.2.2.1.1 h5, X_isFact hX.1.1 h10, Option.bind_some, bi_eq0, rg (L := 0) (H := 2) (l := 0) (h := 2) rfl rfl]
  by_cases c1 : isP np a1 = true
  · rw [c1]
    by_cases c2 : isP n a2 = true
    · rw [c2]
      by_cases c3 : inR 0 2 a3 = true
      · rw [if_pos c3]
        simp only [tf, if_false]
        obtain ⟨p, hp, rfl⟩ := isP_nI (show np < 2 ^ 31 by omega) c1
        obtain ⟨f, hf, rfl⟩ := isP_nI (show n < 2 ^ 31 by omega) c2
        obtain ⟨a, ha, rfl⟩ := inR_nI (b := 2) (by decide) c3
        have hf10 : f < 10 := by omega
        obtain ⟨s1, d1, d2, d3⟩ := X_copy_34_32 (σ := σx) (wS_any _) hxw
        obtain ⟨s2, e1, e2, e3⟩ := X_nar_34 (hX.2.2.2.2.2.2.sw (xw.sw d2)) (hX.2.2.1.sw (xw.sw d2)) d3 hp hf10 ha
        have hxx : xeq σx s2 := ((xw.sw d2).tr e2).xe rfl
        obtain ⟨sm, g1, g2⟩ := M_tellsC hM h10 h40 hp hf ha
        simp only [d1, e1, Option.bind_some, X_size_34 e3, cn_top hp2 (nw_top (fun v hv => ht v (Nat.le_refl _) hv))]
        exact ⟨_, s2, sm, rfl, g1, n, w, u, tl, tb, np, kn, si, hu, sp, nb, who, fac, ans, cst, lf, law, hX.xe hxx, hM.me g2, hW⟩
      · rw [if_neg c3]
        rw [Bool.not_eq_true] at c3
        rw [hN (Or.inr (Or.inr c3))]
        exact ⟨_, _, _, rfl, rfl, n, w, u, tl, tb, np, kn, si, hu, sp, nb, who, fac, ans, cst, lf, law, hX, hM, hW⟩
    · rw [Bool.not_eq_true] at c2
      rw [c2, hN (Or.inr (Or.inl c2))]
      exact ⟨_, _, _, rfl, rfl, n, w, u, tl, tb, np, kn, si, hu, sp, nb, who, fac, ans, cst, lf, law, hX, hM, hW⟩
  · rw [Bool.not_eq_true] at c1
    rw [c1, hN (Or.inl c1)]
    exact ⟨_, _, _, rfl, rfl, n, w, u, tl, tb, np, kn, si, hu, sp, nb, who, fac, ans, cst, lf, law, hX, hM, hW⟩
