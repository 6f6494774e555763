/-! facts, back, anew, left, isLeft -/
theorem cn_top {P : Nat → Bool} {a b : Nat} (h : a ≤ b) (hP : ∀ v, a ≤ v → P v = false) : cn P b = cn P a := by
  obtain ⟨d, rfl⟩ := Nat.exists_eq_add_of_le h
  have h0 : cn (fun j => P (a + j)) d = 0 := cn_ex.mpr (ex_f.mpr (fun v _ => hP (a + v) (by omega)))
  rw [cn_add, h0]
  rfl
theorem M_isLeftNow {nb : Nat} {lf : Nat → Nat → Bool} {σ : ow_S} (hb : σ.1 0 6 = nI nb) (h40 : nb ≤ 40) (hW : MW nb lf σ) {v : Nat} (hv : v < 1024) : fX10_isLeftNow (nI v) σ = some (bi (lf nb v), σ) := by
  have e : (1024 * (σ.1 0 6)) + nI v = nI (1024 * nb + v) := by rw [hb, show (1024 : Int32) = nI 1024 from rfl, pk_mul, nI_add]
  unfold fX10_isLeftNow
  rw [e, nI_clamp (by omega), hW nb (Nat.le_refl _) v hv, if_pos (ow_in_nI (by omega) (by decide)), if_pos (bi_01 _)]
theorem M_leftManyl {n nb : Nat} {lf : Nat → Nat → Bool} {σ : ow_S} (hn : σ.1 0 2 = nI n) (h10 : n ≤ 10) (hb : σ.1 0 6 = nI nb) (h40 : nb ≤ 40) (hW : MW nb lf σ) {fuel : Nat} (hf : 1024 < fuel) : fX10_leftMany_l4 fuel 0 (nI 0) σ = some (nI (cn (lf nb) (2 ^ n)), σ) := by
  have hp := pow_le h10
  refine lp (β := Int32 × ow_S) (F := fun m i b => fX10_leftMany_l4 m b.1 i b.2) (Inv := fun i b => b = (nI (cn (lf nb) i), σ)) (Q := fun r => r = some (nI (cn (lf nb) (2 ^ n)), σ)) (2 ^ n) ?_ ?_ (2 ^ n) 0 fuel (nI 0, σ) (Nat.zero_add _) (by omega) rfl
  · intro m i b hi h1
    subst h1
    refine Or.inr ⟨(nI (cn (lf nb) (i + 1)), σ), ?_, rfl⟩
    show fX10_leftMany_l4 (m + 1) (nI (cn (lf nb) i)) (nI i) σ = fX10_leftMany_l4 m (nI (cn (lf nb) (i + 1))) (nI (i + 1)) σ
    rw [fX10_leftMany_l4]
    simp only [ow_bd, ow_lt, M_worldMany hn h10, Option.bind_some, nI_ge hi (show 2 ^ n < 2 ^ 31 by omega), if_false, M_isLeftNow hb h40 hW (show i < 1024 by omega), nI_1, bi_eq0]
    have e : cn (lf nb) (i + 1) = cn (lf nb) i + (if lf nb i = true then 1 else 0) := rfl
    rw [e]
    cases lf nb i
    · rw [if_pos rfl, z0, nI_add]; rfl
    · rw [if_neg (by decide)]; rfl
  · intro m b h1
    subst h1
    show fX10_leftMany_l4 (m + 1) (nI (cn (lf nb) (2 ^ n))) (nI (2 ^ n)) σ = _
    rw [fX10_leftMany_l4]
    simp only [ow_bd, M_worldMany hn h10, Option.bind_some, nI_le (Nat.le_refl (2 ^ n)) (show 2 ^ n < 2 ^ 31 by omega), if_true]
theorem M_leftMany {n nb : Nat} {lf : Nat → Nat → Bool} {σ : ow_S} (hn : σ.1 0 2 = nI n) (h10 : n ≤ 10) (hb : σ.1 0 6 = nI nb) (h40 : nb ≤ 40) (hW : MW nb lf σ) : fX10_leftMany σ = some (nI (cn (lf nb) (2 ^ n)), σ) := by
  have hf : 1024 < ow_FU := by decide
  rw [fX10_leftMany]
  exact M_leftManyl hn h10 hb h40 hW hf
theorem RX.hear {n w u tl : Nat} {tb : Nat → Nat} {np : Nat} {kn si hu : Nat → Nat} {who : Nat → Nat} {fac ans cst : Nat → Int32} {law : List aC} {σ σ' : ow_S} (hG : XG n w u σ) (hT : XT tl tb σ) (hP : XP np kn si hu σ) (hL : XL law σ) (q : xhq σ σ') (h8 : σ'.1 8 3 = 0) (h6 : ∀ p, p < 5 → σ'.1 6 p = 0) (w1 : wS (posW n law) (σ'.2 31)) (w2 : wS (posW n law) (σ'.2 33)) : RX n w u tl tb np kn si hu (fun _ => 0) 0 who fac ans cst (fun _ => posW n law) law σ' := by
  have E : ∀ c, c ≠ 6 → c ≠ 8 → c ≠ 12 → c ≠ 13 → c ≠ 14 → σ'.1 c = σ.1 c := q.1
  refine ⟨hG.fr (E 0 (by decide) (by decide) (by decide) (by decide) (by decide)), hT.fr (E 1 (by decide) (by decide) (by decide) (by decide) (by decide)) (E 2 (by decide) (by decide) (by decide) (by decide) (by decide)), hP.fr (E 3 (by decide) (by decide) (by decide) (by decide) (by decide)) (E 4 (by decide) (by decide) (by decide) (by decide) (by decide)) (E 5 (by decide) (by decide) (by decide) (by decide) (by decide)) (E 7 (by decide) (by decide) (by decide) (by decide) (by decide)), h6, ⟨h8, fun r hr => absurd hr (by omega)⟩, ⟨fun r hr => absurd hr (by omega), w2, w1⟩, hL.fr (fun c a b => E c (by omega) (by omega) (by omega) (by omega) (by omega))⟩
theorem RM.hear {n w u tl : Nat} {tb : Nat → Nat} {np : Nat} {kn si hu : Nat → Nat} {who : Nat → Nat} {fac ans cst : Nat → Int32} {law : List aC} {σ σ' : ow_S} (hG : MG n w u σ) (hT : MT tl tb σ) (hP : MP np kn si hu σ) (hL : ML law σ) (q : mhq σ σ') (h8 : σ'.1 0 6 = 0) (h6 : ∀ p, p < 5 → σ'.1 5 p = 0) (w1 : ∀ v, v < 1024 → σ'.1 22 v = bi (posW n law v)) : RM n w u tl tb np kn si hu (fun _ => 0) 0 who fac ans cst (fun _ => posW n law) law σ' := by
  have E0 : ∀ k, k < 12 → k ≠ 6 → σ'.1 0 k = σ.1 0 k := q.1
  have E : ∀ c, mper c = true → c ≠ 5 → c ≠ 22 → σ'.1 c = σ.1 c := q.2
  refine ⟨hG.fr (E0 2 (by decide) (by decide)) (E0 4 (by decide) (by decide)) (E0 5 (by decide) (by decide)), hT.fr (E0 1 (by decide) (by decide)) (E 1 rfl (by decide) (by decide)), hP.fr (E0 3 (by decide) (by decide)) (E 3 rfl (by decide) (by decide)) (E 2 rfl (by decide) (by decide)) (E 4 rfl (by decide) (by decide)), h6, ⟨h8, fun r hr => absurd hr (by omega)⟩, fun r hr v hv => ?_, hL.fr (E0 11 (by decide) (by decide)) (fun c a b => E c (by unfold mper; simp; omega) (by omega) (by omega))⟩
  have : r = 0 := by omega
  rw [this, Nat.mul_zero, Nat.zero_add]
  exact w1 v hv
theorem posW_top {n : Nat} {law : List aC} {v : Nat} (h : 2 ^ n ≤ v) : posW n law v = false := by
  unfold posW
  simp [show ¬ v < 2 ^ n by omega]
theorem RW.hear {n w u tl np : Nat} {tb : Nat → Nat} {who : Nat → Nat} {law : List aC} {cst : Nat → Int32} (h1 : WG n w u) (h2 : WT tl tb) : RW n w u tl tb np 0 who (fun _ => posW n law) (fun _ => 0) cst := ⟨h1, h2, by decide, fun r hr => absurd hr (by omega), fun _ _ _ hv => posW_top hv, fun _ _ => rfl⟩
theorem XR_start {n w u tl : Nat} {tb : Nat → Nat} {np : Nat} {kn si hu : Nat → Nat} {law : List aC} {σx σm : ow_S} (hG : XG n w u σx) (hT : XT tl tb σx) (hP : XP np kn si hu σx) (hL : XL law σx) (gG : MG n w u σm) (gT : MT tl tb σm) (gP : MP np kn si hu σm) (gL : ML law σm) (h1 : WG n w u) (h2 : WT tl tb) : ∃ σx2 σm2, fX9_startHearing σx = some ((), σx2) ∧ fX10_startsAnew σm = some ((), σm2) ∧ RX n w u tl tb np kn si hu (fun _ => 0) 0 (fun _ => 0) (fun _ => 0) (fun _ => 0) (fun _ => 0) (fun _ => posW n law) law σx2 ∧ RM n w u tl tb np kn si hu (fun _ => 0) 0 (fun _ => 0) (fun _ => 0) (fun _ => 0) (fun _ => 0) (fun _ => posW n law) law σm2 ∧ RW n w u tl tb np 0 (fun _ => 0) (fun _ => posW n law) (fun _ => 0) (fun _ => 0) := by
  obtain ⟨s1, a1, a2, a3, a4, a5, a6⟩ := X_start hG.1 h1.2.1 hL
  obtain ⟨s2, b1, b2, b3, b4, b5⟩ := M_start gG.1 h1.2.1 gL
  exact ⟨s1, s2, a1, b1, RX.hear hG hT hP hL a2 a3 a4 a5 a6, RM.hear gG gT gP gL b2 b3 b4 b5, RW.hear h1 h2⟩
theorem ow_facts : si_facts ow_R := by
  intro σx σm a1 ⟨n, w, u, tl, tb, np, kn, si, hu, sp, nb, who, fac, ans, cst, lf, law, hX, hM, hW⟩
  unfold fX9_facts fX10_facts
  simp only [ow_bd, ow_lt, M_lies (x := a1) (A := 1) (B := 10) (a := 1) (b := 10) rfl rfl, Option.bind_some, bi_eq0, rg (L := 1) (H := 10) (l := 1) (h := 10) rfl rfl]
  by_cases c : inR 1 10 a1 = true
  · rw [if_pos c, c]
    simp only [tf, if_false]
    obtain ⟨c1, c2⟩ := inR_t.mp c
    obtain ⟨j, hj⟩ := Int.eq_ofNat_of_zero_le (show 0 ≤ a1.toInt by omega)
    have e1 : a1 = nI j := of_toInt hj (by omega)
    subst e1
    have j1 : 1 ≤ j := by omega
    have j2 : j ≤ 10 := by omega
    have jp := pow_le j2
    have jp1 := pow_pos2 j
    have hw : nI w &&& nI (2 ^ j - 1) = nI (w % 2 ^ j) := by
      have := pow_le hW.1.2.1
      have := hW.1.2.2.1
      exact pk_andN (by omega) j (pk_tn (by omega))
    rw [X_allFacts (c0s _ _ _) j2, M_worldMany (c0s _ _ _) j2]
    simp only [Option.bind_some, c0 σx 11 12 _ (by decide), c0 σm 2 4 _ (by decide), hX.1.2.1, hM.1.2.1, show nI (2 ^ j) - 1 = nI (2 ^ j - 1) from pk_sub (b := 1) jp1, hw]
    have x1 : XG j (w % 2 ^ j) u (ow_setI (ow_setI σx 0 11 (nI j)) 0 12 (nI (w % 2 ^ j))) := ⟨by rw [c0 _ _ _ _ (by decide), c0s], c0s _ _ _, by rw [c0 _ _ _ _ (by decide), c0 _ _ _ _ (by decide)]; exact hX.1.2.2⟩
    have m1 : MG j (w % 2 ^ j) u (ow_setI (ow_setI σm 0 2 (nI j)) 0 4 (nI (w % 2 ^ j))) := ⟨by rw [c0 _ _ _ _ (by decide), c0s], c0s _ _ _, by rw [c0 _ _ _ _ (by decide), c0 _ _ _ _ (by decide)]; exact hM.1.2.2⟩
    have EX : ∀ c, c ≠ 0 → (ow_setI (ow_setI σx 0 11 (nI j)) 0 12 (nI (w % 2 ^ j))).1 c = σx.1 c := fun c hc => by rw [gIc _ _ _ _ _ hc, gIc _ _ _ _ _ hc]
    have EM : ∀ c, c ≠ 0 → (ow_setI (ow_setI σm 0 2 (nI j)) 0 4 (nI (w % 2 ^ j))).1 c = σm.1 c := fun c hc => by rw [gIc _ _ _ _ _ hc, gIc _ _ _ _ _ hc]
    have EM0 : ∀ k, k ≠ 2 → k ≠ 4 → (ow_setI (ow_setI σm 0 2 (nI j)) 0 4 (nI (w % 2 ^ j))).1 0 k = σm.1 0 k := fun k k1 k2 => by rw [c0 _ _ _ _ k2, c0 _ _ _ _ k1]
    generalize ow_setI (ow_setI σx 0 11 (nI j)) 0 12 (nI (w % 2 ^ j)) = sx at *
    generalize ow_setI (ow_setI σm 0 2 (nI j)) 0 4 (nI (w % 2 ^ j)) = sm at *
    obtain ⟨_, x2, x3, _, _, _, x7⟩ := hX
    obtain ⟨_, m2, m3, _, _, _, m7⟩ := hM
    obtain ⟨s1, s2, e1, e2, r1, r2, r3⟩ := XR_start x1 (x2.fr (EX 1 (by decide)) (EX 2 (by decide))) (x3.fr (EX 3 (by decide)) (EX 4 (by decide)) (EX 5 (by decide)) (EX 7 (by decide))) (x7.fr (fun c a b => EX c (by omega))) m1 (m2.fr (EM0 1 (by decide) (by decide)) (EM 1 (by decide))) (m3.fr (EM0 3 (by decide) (by decide)) (EM 3 (by decide)) (EM 2 (by decide)) (EM 4 (by decide))) (m7.fr (EM0 11 (by decide) (by decide)) (fun c a b => EM c (by omega))) ⟨j1, j2, Nat.mod_lt _ (by omega), hW.1.2.2.2⟩ hW.2.1
    rw [e1, e2]
    simp only [Option.bind_some]
    rw [X_size_32 r1.2.2.2.2.2.1.2.1, M_leftMany r2.1.1 j2 r2.2.2.2.2.1.1 r3.2.2.1 r2.2.2.2.2.2.1]
    refine ⟨_, s1, s2, rfl, ?_, _, _, _, _, _, _, _, _, _, _, _, _, _, _, _, _, _, r1, r2, r3⟩
    rw [cn_top jp (fun v hv => posW_top hv)]
    rfl
  · rw [if_neg c]
    rw [Bool.not_eq_true] at c
    rw [c, if_pos rfl]
    exact ⟨_, _, _, rfl, rfl, n, w, u, tl, tb, np, kn, si, hu, sp, nb, who, fac, ans, cst, lf, law, hX, hM, hW⟩
theorem ow_first : ∃ σx σm : ow_S, fX9_startHearing ox_0 = some ((), σx) ∧ fX10_startsAnew om_0 = some ((), σm) ∧ ow_R σx σm := by
  have hX : XG 1 0 1 ox_0 := ⟨rfl, rfl, rfl⟩
  have hM : MG 1 0 1 om_0 := ⟨rfl, rfl, rfl⟩
  obtain ⟨s1, s2, e1, e2, r1, r2, r3⟩ := XR_start (tl := 0) (tb := fun _ => 0) (np := 0) (kn := fun _ => 0) (si := fun _ => 0) (hu := fun _ => 0) (law := []) hX ⟨rfl, fun _ _ => rfl⟩ ⟨rfl, by decide, fun _ _ => rfl, fun _ _ => rfl, fun _ _ => rfl, fun _ => Nat.zero_lt_succ _, fun _ => Nat.zero_le _, fun _ => Nat.zero_le _⟩ ⟨rfl, by decide, 0, by decide, rfl, fun k c hc => by simp at hc⟩ hM ⟨rfl, fun _ _ => show (0 : Int32) &&& 255 = nI 0 by decide⟩ ⟨rfl, by decide, fun _ _ => rfl, fun _ _ => rfl, fun _ _ => rfl, fun _ => Nat.zero_lt_succ _, fun _ => Nat.zero_le _, fun _ => Nat.zero_le _⟩ ⟨rfl, by decide, fun k c hc => by simp at hc⟩ ⟨by decide, by decide, by decide, by decide⟩ ⟨by decide, fun _ => Nat.zero_lt_succ _⟩
  exact ⟨s1, s2, e1, e2, _, _, _, _, _, _, _, _, _, _, _, _, _, _, _, _, _, r1, r2, r3⟩
