/-! feed -/
def byI (a s : Int32) : Nat := ((a >>> (s &&& 31)) &&& 255).toNatClampNeg
theorem and255 (x : Int32) : ∃ b : Nat, b < 256 ∧ x &&& 255 = nI b := by
  refine ⟨x.toBitVec.toNat % 256, Nat.mod_lt _ (by decide), ?_⟩
  exact pk_and x 8 (by decide)
theorem byI_lt (a s : Int32) : byI a s < 256 := by
  obtain ⟨b, h1, h2⟩ := and255 (a >>> (s &&& 31))
  unfold byI
  rw [h2, nI_clamp (by omega)]
  exact h1
theorem byI_eq (a s : Int32) : (a >>> (s &&& 31)) &&& 255 = nI (byI a s) := by
  obtain ⟨b, h1, h2⟩ := and255 (a >>> (s &&& 31))
  unfold byI
  rw [h2, nI_clamp (by omega)]
theorem nar_and (x : Int32) : (vp_nar .byte ((Int32.toInt8 x).toInt32)) &&& 255 = x &&& 255 := by
  show ((Int32.toInt8 ((Int32.toInt8 x).toInt32)).toInt32) &&& 255 = x &&& 255
  apply Int32.toBitVec_inj.mp
  apply BitVec.eq_of_getLsbD_eq
  intro i hi
  rw [Int32.toBitVec_and, Int32.toBitVec_and, BitVec.getLsbD_and, BitVec.getLsbD_and]
  by_cases c : i < 8
  · congr 1
    simp only [Int8.toBitVec_toInt32, Int32.toBitVec_toInt8, BitVec.getLsbD_signExtend, c, hi, decide_true, Bool.true_and, if_true]
  · have : (255 : Int32).toBitVec.getLsbD i = false := by
      have t := (show (List.range 32).all (fun i => decide (i < 8) || !((255 : Int32).toBitVec.getLsbD i)) = true by decide +kernel)
      have := List.all_eq_true.mp t i (List.mem_range.mpr hi)
      simp [c] at this
      exact this
    rw [this, Bool.and_false, Bool.and_false]
def xtq (σ σ' : ow_S) : Prop := σ'.2 = σ.2 ∧ ∀ c, c ≠ 1 → c ≠ 2 → σ'.1 c = σ.1 c
def mtq (σ σ' : ow_S) : Prop := (∀ k, k ≠ 1 → σ'.1 0 k = σ.1 0 k) ∧ ∀ c, c ≠ 0 → c ≠ 1 → σ'.1 c = σ.1 c
theorem xtq.tr {a b c : ow_S} (h1 : xtq a b) (h2 : xtq b c) : xtq a c := ⟨h2.1.trans h1.1, fun i g g2 => (h2.2 i g g2).trans (h1.2 i g g2)⟩
theorem mtq.tr {a b c : ow_S} (h1 : mtq a b) (h2 : mtq b c) : mtq a c := ⟨fun i g => (h2.1 i g).trans (h1.1 i g), fun i g g2 => (h2.2 i g g2).trans (h1.2 i g g2)⟩
theorem X_app1 {K : ow_S → Option (Unit × ow_S)} {a s : Int32} {tl : Nat} {tb : Nat → Nat} {σ : ow_S} (h : XT tl tb σ) (ht : tl < 220) (hs : ¬ s < 0) (m : Nat) : ∃ σ', fX7_append_l3 K a (m + 1) s σ = fX7_append_l3 K a m (s + (-8)) σ' ∧ XT (tl + 1) (nu tb tl (byI a s)) σ' ∧ xtq σ σ' := by
  refine ⟨ow_setI (ow_setI σ 2 tl (nI (byI a s))) 1 1 (nI (tl + 1)), ?_, ⟨by rw [gIs, if_pos rfl], fun i hi => ?_⟩, rfl, fun c c1 c2 => ?_⟩
  · rw [fX7_append_l3, if_neg hs]
    simp only [h.1, show ¬ (220 : Int32) ≤ nI tl from nI_ge (b := 220) ht (by decide), if_false, ow_in_nI ht (show (220 : Nat) < 2 ^ 31 by decide), if_true, ow_lt, nI_clamp (show tl < 2 ^ 31 by omega), byI_eq, gIn σ (show 1 ≠ 2 by decide), nI_1]
  · rw [gIn _ (by decide), gIs]
    exact nu_set (h.2 i hi)
  · rw [gIc _ _ _ _ _ c1, gIc _ _ _ _ _ c2]
theorem M_push1 {a s : Int32} {tl : Nat} {tb : Nat → Nat} {σ : ow_S} (h : MT tl tb σ) (ht : tl < 220) (hs : ¬ s < 0) (m : Nat) : ∃ σ', fX10_push_l3 a (m + 1) s σ = fX10_push_l3 a m (s + (-8)) σ' ∧ MT (tl + 1) (nu tb tl (byI a s)) σ' ∧ mtq σ σ' := by
  refine ⟨ow_setI (ow_setI σ 1 tl (vp_nar .byte ((Int32.toInt8 (a >>> (s &&& 31))).toInt32))) 0 1 (nI (tl + 1)), ?_, ⟨by rw [gIs, if_pos rfl], fun i hi => ?_⟩, fun k hk => ?_, fun c c1 c2 => ?_⟩
  · rw [fX10_push_l3, if_neg hs]
    simp only [h.1, ow_in_nI ht (show (220 : Nat) < 2 ^ 31 by decide), if_true, ow_lt, nI_clamp (show tl < 2 ^ 31 by omega), gIn σ (show 0 ≠ 1 by decide), nI_1]
  · rw [gIn _ (by decide), gIs]
    by_cases e : i = tl
    · rw [if_pos e, nar_and, byI_eq]
      unfold nu
      rw [if_pos e]
    · rw [if_neg e]
      unfold nu
      rw [if_neg e]
      exact h.2 i hi
  · rw [c0 _ _ _ _ hk, gIn _ (by decide)]
  · rw [gIc _ _ _ _ _ c1, gIc _ _ _ _ _ c2]
def nu4 (tb : Nat → Nat) (tl : Nat) (a : Int32) : Nat → Nat := nu (nu (nu (nu tb tl (byI a 24)) (tl + 1) (byI a 16)) (tl + 1 + 1) (byI a 8)) (tl + 1 + 1 + 1) (byI a 0)
theorem nu4_lt {tb : Nat → Nat} {tl : Nat} {a : Int32} (h : ∀ i, tb i < 256) : ∀ i, nu4 tb tl a i < 256 := nu_lt (nu_lt (nu_lt (nu_lt h (byI_lt _ _)) (byI_lt _ _)) (byI_lt _ _)) (byI_lt _ _)
theorem FU5 : ow_FU = 99995 + 1 + 1 + 1 + 1 + 1 := by decide
theorem X_append {a : Int32} {tl : Nat} {tb : Nat → Nat} {σ : ow_S} (h : XT tl tb σ) (ht : tl + 4 ≤ 220) : ∃ σ', fX7_append a σ = some ((), σ') ∧ XT (tl + 4) (nu4 tb tl a) σ' ∧ xtq σ σ' := by
  unfold fX7_append
  rw [FU5]
  generalize 99995 = m
  obtain ⟨s1, a1, a2, a3⟩ := X_app1 (K := fun (s4 : ow_S) => some ((), s4)) (a := a) (s := 24) h (by omega) (by decide) (m + 1 + 1 + 1 + 1)
  obtain ⟨s2, b1, b2, b3⟩ := X_app1 (K := fun (s4 : ow_S) => some ((), s4)) (a := a) (s := 16) a2 (by omega) (by decide) (m + 1 + 1 + 1)
  obtain ⟨s3, c1, c2, c3⟩ := X_app1 (K := fun (s4 : ow_S) => some ((), s4)) (a := a) (s := 8) b2 (by omega) (by decide) (m + 1 + 1)
  obtain ⟨s4, d1, d2, d3⟩ := X_app1 (K := fun (s4 : ow_S) => some ((), s4)) (a := a) (s := 0) c2 (by omega) (by decide) (m + 1)
  rw [a1, show (24 : Int32) + (-8) = 16 by decide, b1, show (16 : Int32) + (-8) = 8 by decide, c1, show (8 : Int32) + (-8) = 0 by decide, d1, fX7_append_l3, if_pos (by decide)]
  exact ⟨s4, rfl, d2, ((a3.tr b3).tr c3).tr d3⟩
theorem M_push {a : Int32} {tl : Nat} {tb : Nat → Nat} {σ : ow_S} (h : MT tl tb σ) (ht : tl + 4 ≤ 220) : ∃ σ', fX10_push a σ = some ((), σ') ∧ MT (tl + 4) (nu4 tb tl a) σ' ∧ mtq σ σ' := by
  unfold fX10_push
  rw [FU5]
  generalize 99995 = m
  obtain ⟨s1, a1, a2, a3⟩ := M_push1 (a := a) (s := 24) h (by omega) (by decide) (m + 1 + 1 + 1 + 1)
  obtain ⟨s2, b1, b2, b3⟩ := M_push1 (a := a) (s := 16) a2 (by omega) (by decide) (m + 1 + 1 + 1)
  obtain ⟨s3, c1, c2, c3⟩ := M_push1 (a := a) (s := 8) b2 (by omega) (by decide) (m + 1 + 1)
  obtain ⟨s4, d1, d2, d3⟩ := M_push1 (a := a) (s := 0) c2 (by omega) (by decide) (m + 1)
  rw [a1, show (24 : Int32) + (-8) = 16 by decide, b1, show (16 : Int32) + (-8) = 8 by decide, c1, show (8 : Int32) + (-8) = 0 by decide, d1, fX10_push_l3, if_pos (by decide)]
  exact ⟨s4, rfl, d2, ((a3.tr b3).tr c3).tr d3⟩
theorem RX.tt {n w u tl : Nat} {tb : Nat → Nat} {np : Nat} {kn si hu : Nat → Nat} {sp : Nat → Int32} {nb : Nat} {who : Nat → Nat} {fac ans cst : Nat → Int32} {lf : Nat → Nat → Bool} {law : List aC} {σ σ' : ow_S} (h : RX n w u tl tb np kn si hu sp nb who fac ans cst lf law σ) {tl2 : Nat} {tb2 : Nat → Nat} (q : xtq σ σ') (g : XT tl2 tb2 σ') : RX n w u tl2 tb2 np kn si hu sp nb who fac ans cst lf law σ' := by
  obtain ⟨h1, h2, h3, h4, h5, h6, h7⟩ := h
  obtain ⟨e2, E⟩ := q
  exact ⟨h1.fr (E 0 (by decide) (by decide)), g, h3.fr (E 3 (by decide) (by decide)) (E 4 (by decide) (by decide)) (E 5 (by decide) (by decide)) (E 7 (by decide) (by decide)), h4.fr (E 6 (by decide) (by decide)), h5.fr (E 8 (by decide) (by decide)) (E 9 (by decide) (by decide)) (E 10 (by decide) (by decide)), h6.fr (by rw [e2]) (by rw [e2]) (by rw [e2]), h7.fr (fun c a b => E c (by omega) (by omega))⟩
theorem RM.tt {n w u tl : Nat} {tb : Nat → Nat} {np : Nat} {kn si hu : Nat → Nat} {sp : Nat → Int32} {nb : Nat} {who : Nat → Nat} {fac ans cst : Nat → Int32} {lf : Nat → Nat → Bool} {law : List aC} {σ σ' : ow_S} (h : RM n w u tl tb np kn si hu sp nb who fac ans cst lf law σ) {tl2 : Nat} {tb2 : Nat → Nat} (q : mtq σ σ') (g : MT tl2 tb2 σ') : RM n w u tl2 tb2 np kn si hu sp nb who fac ans cst lf law σ' := by
  obtain ⟨h1, h2, h3, h4, h5, h6, h7⟩ := h
  obtain ⟨E0, E⟩ := q
  exact ⟨h1.fr (E0 2 (by decide)) (E0 4 (by decide)) (E0 5 (by decide)), g, h3.fr (E0 3 (by decide)) (E 3 (by decide) (by decide)) (E 2 (by decide) (by decide)) (E 4 (by decide) (by decide)), h4.fr (E 5 (by decide) (by decide)), h5.fr (E0 6 (by decide)) (fun c a b => E c (by omega) (by omega)), h6.fr (E 22 (by decide) (by decide)), h7.fr (E0 11 (by decide)) (fun c a b => E c (by omega) (by omega))⟩
theorem ow_feed : si_feed ow_R := by
  intro σx σm a1 a2 a3 a4 a5 ⟨n, w, u, tl, tb, np, kn, si, hu, sp, nb, who, fac, ans, cst, lf, law, hX, hM, hW⟩
  have hx := hX.2.1
  have hm := hM.2.1
  have ht := hW.2.1.1
  unfold fX9_feed fX10_feed fX7_takesFive fX7_size
  simp only [ow_bd, ow_lt, hx.1, hm.1, show (20 : Int32) = nI 20 from rfl, show (220 : Int32) = nI 220 from rfl, nI_add, is01_0, is01_1, if_true]
  by_cases c : tl + 20 ≤ 220
  · rw [if_neg (nI_nlt c (by decide)), if_pos (nI_le c (by decide))]
    simp only [Option.bind_some, show ((1 : Int32) = 0) = False from eq_false (by decide), if_false]
    obtain ⟨s1, p1, p2, p3⟩ := X_append (a := a1) hx (by omega)
    obtain ⟨s2, q1, q2, q3⟩ := X_append (a := a2) p2 (by omega)
    obtain ⟨s3, r1, r2, r3⟩ := X_append (a := a3) q2 (by omega)
    obtain ⟨s4, t1, t2, t3⟩ := X_append (a := a4) r2 (by omega)
    obtain ⟨s5, u1, u2, u3⟩ := X_append (a := a5) t2 (by omega)
    obtain ⟨z1, P1, P2, P3⟩ := M_push (a := a1) hm (by omega)
    obtain ⟨z2, Q1, Q2, Q3⟩ := M_push (a := a2) P2 (by omega)
    obtain ⟨z3, R1, R2, R3⟩ := M_push (a := a3) Q2 (by omega)
    obtain ⟨z4, T1, T2, T3⟩ := M_push (a := a4) R2 (by omega)
    obtain ⟨z5, U1, U2, U3⟩ := M_push (a := a5) T2 (by omega)
    simp only [p1, q1, r1, t1, u1, P1, Q1, R1, T1, U1, Option.bind_some, u2.1, U2.1]
    refine ⟨_, _, _, rfl, rfl, n, w, u, _, _, np, kn, si, hu, sp, nb, who, fac, ans, cst, lf, law, hX.tt ((((p3.tr q3).tr r3).tr t3).tr u3) u2, hM.tt ((((P3.tr Q3).tr R3).tr T3).tr U3) U2, hW.1, ⟨by omega, nu4_lt (nu4_lt (nu4_lt (nu4_lt (nu4_lt hW.2.1.2))))⟩, hW.2.2⟩
  · rw [if_pos (nI_lt (by omega) (by omega)), if_neg (nI_ge (by omega) (by omega))]
    exact ⟨_, _, _, rfl, rfl, n, w, u, tl, tb, np, kn, si, hu, sp, nb, who, fac, ans, cst, lf, law, hX, hM, hW⟩
