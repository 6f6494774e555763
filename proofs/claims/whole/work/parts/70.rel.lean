/-! the relation of the two memories -/
def XG (n w u : Nat) (σ : ow_S) : Prop := σ.1 0 11 = nI n ∧ σ.1 0 12 = nI w ∧ σ.1 0 13 = nI u
def MG (n w u : Nat) (σ : ow_S) : Prop := σ.1 0 2 = nI n ∧ σ.1 0 4 = nI w ∧ σ.1 0 5 = nI u
def XT (tl : Nat) (tb : Nat → Nat) (σ : ow_S) : Prop := σ.1 1 1 = nI tl ∧ ∀ i, i < 220 → σ.1 2 i = nI (tb i)
def MT (tl : Nat) (tb : Nat → Nat) (σ : ow_S) : Prop := σ.1 0 1 = nI tl ∧ ∀ i, i < 220 → (σ.1 1 i) &&& 255 = nI (tb i)
def XS (sp : Nat → Int32) (σ : ow_S) : Prop := ∀ p, p < 5 → σ.1 6 p = sp p
def MS (sp : Nat → Int32) (σ : ow_S) : Prop := ∀ p, p < 5 → σ.1 5 p = sp p
def XB (nb : Nat) (who : Nat → Nat) (fac ans cst : Nat → Int32) (σ : ow_S) : Prop := σ.1 8 3 = nI nb ∧ ∀ r, r < nb → σ.1 9 (3 * r) = nI (who r) ∧ σ.1 9 (3 * r + 1) = fac r ∧ σ.1 9 (3 * r + 2) = ans r ∧ σ.1 10 r = cst r
def MB (nb : Nat) (who : Nat → Nat) (fac ans cst : Nat → Int32) (σ : ow_S) : Prop := σ.1 0 6 = nI nb ∧ ∀ r, r < nb → σ.1 24 r = nI (who r) ∧ σ.1 25 r = fac r ∧ σ.1 26 r = ans r ∧ σ.1 27 r = cst r
def XW (nb : Nat) (lf : Nat → Nat → Bool) (σ : ow_S) : Prop := (∀ r, r < nb → wS (lf r) (fun i => σ.2 11 (16 * r + i))) ∧ wS (lf nb) (σ.2 33) ∧ wS (lf 0) (σ.2 31)
def MW (nb : Nat) (lf : Nat → Nat → Bool) (σ : ow_S) : Prop := ∀ r, r ≤ nb → ∀ v, v < 1024 → σ.1 22 (1024 * r + v) = bi (lf r v)
def WG (n w u : Nat) : Prop := 1 ≤ n ∧ n ≤ 10 ∧ w < 2 ^ n ∧ u < 65536
def WT (tl : Nat) (tb : Nat → Nat) : Prop := tl ≤ 220 ∧ ∀ i, tb i < 256
/-- what a person has paid in the first rows -/
def smP (who : Nat → Nat) (cst : Nat → Int32) (p : Nat) : Nat → Int32
  | 0 => 0
  | r + 1 => smP who cst p r + (if who r = p then cst r else 0)
def WB (n np nb : Nat) (who : Nat → Nat) (lf : Nat → Nat → Bool) (sp cst : Nat → Int32) : Prop := nb ≤ 40 ∧ (∀ r, r < nb → who r < np) ∧ (∀ r v, r ≤ nb → 2 ^ n ≤ v → lf r v = false) ∧ ∀ p, p < 5 → sp p = smP who cst p nb
def RX (n w u tl : Nat) (tb : Nat → Nat) (np : Nat) (kn si hu : Nat → Nat) (sp : Nat → Int32) (nb : Nat) (who : Nat → Nat) (fac ans cst : Nat → Int32) (lf : Nat → Nat → Bool) (law : List aC) (σ : ow_S) : Prop := XG n w u σ ∧ XT tl tb σ ∧ XP np kn si hu σ ∧ XS sp σ ∧ XB nb who fac ans cst σ ∧ XW nb lf σ ∧ XL law σ
def RM (n w u tl : Nat) (tb : Nat → Nat) (np : Nat) (kn si hu : Nat → Nat) (sp : Nat → Int32) (nb : Nat) (who : Nat → Nat) (fac ans cst : Nat → Int32) (lf : Nat → Nat → Bool) (law : List aC) (σ : ow_S) : Prop := MG n w u σ ∧ MT tl tb σ ∧ MP np kn si hu σ ∧ MS sp σ ∧ MB nb who fac ans cst σ ∧ MW nb lf σ ∧ ML law σ
def RW (n w u tl : Nat) (tb : Nat → Nat) (np nb : Nat) (who : Nat → Nat) (lf : Nat → Nat → Bool) (sp cst : Nat → Int32) : Prop := WG n w u ∧ WT tl tb ∧ WB n np nb who lf sp cst
def ow_R (σx σm : ow_S) : Prop := ∃ n w u tl tb np kn si hu sp nb who fac ans cst lf law, RX n w u tl tb np kn si hu sp nb who fac ans cst lf law σx ∧ RM n w u tl tb np kn si hu sp nb who fac ans cst lf law σm ∧ RW n w u tl tb np nb who lf sp cst
theorem XG.fr {n w u : Nat} {σ σ' : ow_S} (h : XG n w u σ) (e : σ'.1 0 = σ.1 0) : XG n w u σ' := by unfold XG; rw [e]; exact h
theorem XT.fr {tl : Nat} {tb : Nat → Nat} {σ σ' : ow_S} (h : XT tl tb σ) (e : σ'.1 1 = σ.1 1) (e2 : σ'.1 2 = σ.1 2) : XT tl tb σ' := by unfold XT; rw [e, e2]; exact h
theorem XP.fr {np : Nat} {kn si hu : Nat → Nat} {σ σ' : ow_S} (h : XP np kn si hu σ) (e : σ'.1 3 = σ.1 3) (e2 : σ'.1 4 = σ.1 4) (e3 : σ'.1 5 = σ.1 5) (e4 : σ'.1 7 = σ.1 7) : XP np kn si hu σ' := by unfold XP; rw [e, e2, e3, e4]; exact h
theorem XS.fr {sp : Nat → Int32} {σ σ' : ow_S} (h : XS sp σ) (e : σ'.1 6 = σ.1 6) : XS sp σ' := by unfold XS; rw [e]; exact h
theorem XB.fr {nb : Nat} {who : Nat → Nat} {fac ans cst : Nat → Int32} {σ σ' : ow_S} (h : XB nb who fac ans cst σ) (e : σ'.1 8 = σ.1 8) (e2 : σ'.1 9 = σ.1 9) (e3 : σ'.1 10 = σ.1 10) : XB nb who fac ans cst σ' := by unfold XB; rw [e, e2, e3]; exact h
theorem XW.fr {nb : Nat} {lf : Nat → Nat → Bool} {σ σ' : ow_S} (h : XW nb lf σ) (e : σ'.2 11 = σ.2 11) (e2 : σ'.2 31 = σ.2 31) (e3 : σ'.2 33 = σ.2 33) : XW nb lf σ' := by unfold XW; rw [e, e2, e3]; exact h
theorem XL.fr {law : List aC} {σ σ' : ow_S} (h : XL law σ) (e : ∀ c, 36 ≤ c → c ≤ 41 → σ'.1 c = σ.1 c) : XL law σ' := by unfold XL; rw [e 36 (by decide) (by decide), e 37 (by decide) (by decide), e 38 (by decide) (by decide), e 39 (by decide) (by decide), e 40 (by decide) (by decide), e 41 (by decide) (by decide)]; exact h
theorem MG.fr {n w u : Nat} {σ σ' : ow_S} (h : MG n w u σ) (e2 : σ'.1 0 2 = σ.1 0 2) (e4 : σ'.1 0 4 = σ.1 0 4) (e5 : σ'.1 0 5 = σ.1 0 5) : MG n w u σ' := by unfold MG; rw [e2, e4, e5]; exact h
theorem MT.fr {tl : Nat} {tb : Nat → Nat} {σ σ' : ow_S} (h : MT tl tb σ) (e : σ'.1 0 1 = σ.1 0 1) (e2 : σ'.1 1 = σ.1 1) : MT tl tb σ' := by unfold MT; rw [e, e2]; exact h
theorem MP.fr {np : Nat} {kn si hu : Nat → Nat} {σ σ' : ow_S} (h : MP np kn si hu σ) (e : σ'.1 0 3 = σ.1 0 3) (e2 : σ'.1 3 = σ.1 3) (e3 : σ'.1 2 = σ.1 2) (e4 : σ'.1 4 = σ.1 4) : MP np kn si hu σ' := by unfold MP; rw [e, e2, e3, e4]; exact h
theorem MS.fr {sp : Nat → Int32} {σ σ' : ow_S} (h : MS sp σ) (e : σ'.1 5 = σ.1 5) : MS sp σ' := by unfold MS; rw [e]; exact h
theorem MB.fr {nb : Nat} {who : Nat → Nat} {fac ans cst : Nat → Int32} {σ σ' : ow_S} (h : MB nb who fac ans cst σ) (e : σ'.1 0 6 = σ.1 0 6) (e2 : ∀ c, 24 ≤ c → c ≤ 27 → σ'.1 c = σ.1 c) : MB nb who fac ans cst σ' := by unfold MB; rw [e, e2 24 (by decide) (by decide), e2 25 (by decide) (by decide), e2 26 (by decide) (by decide), e2 27 (by decide) (by decide)]; exact h
theorem MW.fr {nb : Nat} {lf : Nat → Nat → Bool} {σ σ' : ow_S} (h : MW nb lf σ) (e : σ'.1 22 = σ.1 22) : MW nb lf σ' := by unfold MW; rw [e]; exact h
theorem ML.fr {law : List aC} {σ σ' : ow_S} (h : ML law σ) (e0 : σ'.1 0 11 = σ.1 0 11) (e : ∀ c, 6 ≤ c → c ≤ 11 → σ'.1 c = σ.1 c) : ML law σ' := by unfold ML; rw [e0, e 6 (by decide) (by decide), e 7 (by decide) (by decide), e 8 (by decide) (by decide), e 9 (by decide) (by decide), e 10 (by decide) (by decide), e 11 (by decide) (by decide)]; exact h
theorem RX.xe {n w u tl : Nat} {tb : Nat → Nat} {np : Nat} {kn si hu : Nat → Nat} {sp : Nat → Int32} {nb : Nat} {who : Nat → Nat} {fac ans cst : Nat → Int32} {lf : Nat → Nat → Bool} {law : List aC} {σ σ' : ow_S} (h : RX n w u tl tb np kn si hu sp nb who fac ans cst lf law σ) (q : xeq σ σ') : RX n w u tl tb np kn si hu sp nb who fac ans cst lf law σ' := by
  obtain ⟨h1, h2, h3, h4, h5, h6, h7⟩ := h
  exact ⟨h1.fr (q.1 0 rfl), h2.fr (q.1 1 rfl) (q.1 2 rfl), h3.xe q, h4.fr (q.1 6 rfl), h5.fr (q.1 8 rfl) (q.1 9 rfl) (q.1 10 rfl), h6.fr (q.2 11 rfl) (q.2 31 rfl) (q.2 33 rfl), h7.xe q⟩
theorem RM.me {n w u tl : Nat} {tb : Nat → Nat} {np : Nat} {kn si hu : Nat → Nat} {sp : Nat → Int32} {nb : Nat} {who : Nat → Nat} {fac ans cst : Nat → Int32} {lf : Nat → Nat → Bool} {law : List aC} {σ σ' : ow_S} (h : RM n w u tl tb np kn si hu sp nb who fac ans cst lf law σ) (q : meq σ σ') : RM n w u tl tb np kn si hu sp nb who fac ans cst lf law σ' := by
  obtain ⟨h1, h2, h3, h4, h5, h6, h7⟩ := h
  refine ⟨h1.fr (q.1 2 (by decide)) (q.1 4 (by decide)) (q.1 5 (by decide)), h2.fr (q.1 1 (by decide)) (q.2 1 rfl), h3.me q, h4.fr (q.2 5 rfl), h5.fr (q.1 6 (by decide)) (fun c a b => q.2 c ?_), h6.fr (q.2 22 rfl), h7.me q⟩
  unfold mper
  simp [a, b]
theorem c0 (σ : ow_S) (k m : Nat) (v : Int32) (h : m ≠ k) : (ow_setI σ 0 k v).1 0 m = σ.1 0 m := by rw [gI, if_pos rfl, if_neg h]
theorem c0s (σ : ow_S) (k : Nat) (v : Int32) : (ow_setI σ 0 k v).1 0 k = v := by rw [gI, if_pos rfl, if_pos rfl]
/-- one number of the object's own is written: class -/
theorem RX.s0 {n w u tl : Nat} {tb : Nat → Nat} {np : Nat} {kn si hu : Nat → Nat} {sp : Nat → Int32} {nb : Nat} {who : Nat → Nat} {fac ans cst : Nat → Int32} {lf : Nat → Nat → Bool} {law : List aC} {σ : ow_S} (h : RX n w u tl tb np kn si hu sp nb who fac ans cst lf law σ) {k : Nat} {v : Int32} {n2 w2 u2 : Nat} (g : XG n2 w2 u2 (ow_setI σ 0 k v)) : RX n2 w2 u2 tl tb np kn si hu sp nb who fac ans cst lf law (ow_setI σ 0 k v) := by
  obtain ⟨h1, h2, h3, h4, h5, h6, h7⟩ := h
  have E : ∀ c, c ≠ 0 → (ow_setI σ 0 k v).1 c = σ.1 c := fun c hc => gIc _ _ _ _ _ hc
  exact ⟨g, h2.fr (E 1 (by decide)) (E 2 (by decide)), h3.fr (E 3 (by decide)) (E 4 (by decide)) (E 5 (by decide)) (E 7 (by decide)), h4.fr (E 6 (by decide)), h5.fr (E 8 (by decide)) (E 9 (by decide)) (E 10 (by decide)), h6.fr rfl rfl rfl, h7.fr (fun c a b => E c (by omega))⟩
/-- .. and model: luck, truth, facts -/
theorem RM.s0 {n w u tl : Nat} {tb : Nat → Nat} {np : Nat} {kn si hu : Nat → Nat} {sp : Nat → Int32} {nb : Nat} {who : Nat → Nat} {fac ans cst : Nat → Int32} {lf : Nat → Nat → Bool} {law : List aC} {σ : ow_S} (h : RM n w u tl tb np kn si hu sp nb who fac ans cst lf law σ) {k : Nat} {v : Int32} {n2 w2 u2 : Nat} (hk : k = 2 ∨ k = 4 ∨ k = 5) (g : MG n2 w2 u2 (ow_setI σ 0 k v)) : RM n2 w2 u2 tl tb np kn si hu sp nb who fac ans cst lf law (ow_setI σ 0 k v) := by
  obtain ⟨h1, h2, h3, h4, h5, h6, h7⟩ := h
  have E : ∀ c, c ≠ 0 → (ow_setI σ 0 k v).1 c = σ.1 c := fun c hc => gIc _ _ _ _ _ hc
  exact ⟨g, h2.fr (c0 _ _ _ _ (by omega)) (E 1 (by decide)), h3.fr (c0 _ _ _ _ (by omega)) (E 3 (by decide)) (E 2 (by decide)) (E 4 (by decide)), h4.fr (E 5 (by decide)), h5.fr (c0 _ _ _ _ (by omega)) (fun c a b => E c (by omega)), h6.fr (E 22 (by decide)), h7.fr (c0 _ _ _ _ (by omega)) (fun c a b => E c (by omega))⟩
theorem b2 (n : Nat) (h1 : 1 ≤ n) (h2 : n ≤ 10) : 2 ≤ 2 ^ n ∧ 2 ^ n ≤ 1024 := ⟨Nat.pow_le_pow_right (n := 2) (by decide) h1, pow_le h2⟩
theorem rg {α : Type} {x L H : Int32} {l h : Int} (hl : L.toInt = l) (hh : H.toInt = h) {A B : α} : (if x < L then B else if x ≤ H then A else B) = if inR l h x = true then A else B := by
  subst hl hh
  by_cases c : inR L.toInt H.toInt x = true
  · rw [if_pos c]
    rw [inR_t] at c
    rw [if_neg (by rw [i_lt]; omega), if_pos (by rw [i_le]; omega)]
  · rw [if_neg c]
    rw [Bool.not_eq_true, inR_f] at c
    by_cases c1 : x < L
    · rw [if_pos c1]
    · rw [if_neg c1, if_neg (by rw [i_le]; rw [i_lt] at c1; omega)]
theorem ow_seed : si_seed ow_R := by
  intro σx σm a1 ⟨n, w, u, tl, tb, np, kn, si, hu, sp, nb, who, fac, ans, cst, lf, law, hX, hM, hW⟩
  unfold fX9_seed fX10_seed
  simp only [ow_bd, ow_lt, M_lies (x := a1) (A := 0) (B := 65535) (a := 0) (b := 65535) rfl rfl, Option.bind_some, bi_eq0, is01_0, is01_1, if_true, rg (L := 0) (H := 65535) (l := 0) (h := 65535) rfl rfl]
  by_cases c : inR 0 65535 a1 = true
  · obtain ⟨j, hj, rfl⟩ := inR_nI (b := 65535) (by decide) c
    rw [if_pos c, c, if_neg (by decide)]
    refine ⟨_, _, _, rfl, rfl, n, w, j, tl, tb, np, kn, si, hu, sp, nb, who, fac, ans, cst, lf, law, hX.s0 ⟨?_, ?_, c0s _ _ _⟩, hM.s0 (by decide) ⟨?_, ?_, c0s _ _ _⟩, ⟨hW.1.1, hW.1.2.1, hW.1.2.2.1, by omega⟩, hW.2.1, hW.2.2⟩
    · rw [c0 _ _ _ _ (by decide)]; exact hX.1.1
    · rw [c0 _ _ _ _ (by decide)]; exact hX.1.2.1
    · rw [c0 _ _ _ _ (by decide)]; exact hM.1.1
    · rw [c0 _ _ _ _ (by decide)]; exact hM.1.2.1
  · rw [if_neg c]
    rw [Bool.not_eq_true] at c
    rw [c, if_pos rfl]
    exact ⟨_, _, _, rfl, rfl, n, w, u, tl, tb, np, kn, si, hu, sp, nb, who, fac, ans, cst, lf, law, hX, hM, hW⟩
theorem ow_truth : si_truth ow_R := by
  intro σx σm a1 ⟨n, w, u, tl, tb, np, kn, si, hu, sp, nb, who, fac, ans, cst, lf, law, hX, hM, hW⟩
  obtain ⟨g1, g2⟩ := b2 n hW.1.1 hW.1.2.1
  unfold fX9_truth fX10_truth
  have eB : ((nI (2 ^ n) - 1).toInt64).toInt = ((2 ^ n : Nat) : Int) - 1 := sub1_toInt (show 2 ^ n < 2 ^ 30 by omega)
  have eC : (nI (2 ^ n - 1)).toInt = ((2 ^ n : Nat) : Int) - 1 := by rw [nI_toInt (by omega)]; omega
  simp only [ow_bd, ow_lt, M_worldMany hM.1.1 hW.1.2.1, X_allFacts hX.1.1 hW.1.2.1, M_lies (x := a1) (A := 0) (a := 0) rfl eB, Option.bind_some, bi_eq0, is01_0, is01_1, if_true, rg (L := 0) (l := 0) rfl eC]
  by_cases c : inR 0 (((2 ^ n : Nat) : Int) - 1) a1 = true
  · obtain ⟨j, hj, rfl⟩ := isP_nI (show 2 ^ n < 2 ^ 31 by omega) c
    rw [if_pos c, c, if_neg (by decide)]
    refine ⟨_, _, _, rfl, rfl, n, j, u, tl, tb, np, kn, si, hu, sp, nb, who, fac, ans, cst, lf, law, hX.s0 ⟨?_, c0s _ _ _, ?_⟩, hM.s0 (by decide) ⟨?_, c0s _ _ _, ?_⟩, ⟨hW.1.1, hW.1.2.1, hj, hW.1.2.2.2⟩, hW.2.1, hW.2.2⟩
    · rw [c0 _ _ _ _ (by decide)]; exact hX.1.1
    · rw [c0 _ _ _ _ (by decide)]; exact hX.1.2.2
    · rw [c0 _ _ _ _ (by decide)]; exact hM.1.1
    · rw [c0 _ _ _ _ (by decide)]; exact hM.1.2.2
  · rw [if_neg c]
    rw [Bool.not_eq_true] at c
    rw [c, if_pos rfl]
    exact ⟨_, _, _, rfl, rfl, n, w, u, tl, tb, np, kn, si, hu, sp, nb, who, fac, ans, cst, lf, law, hX, hM, hW⟩
