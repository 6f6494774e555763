/-! ask, draw -/
theorem R_eq {σx σm σx2 σm2 : ow_S} (h : ow_R σx σm) (q1 : xeq σx σx2) (q2 : meq σm σm2) : ow_R σx2 σm2 := by
  obtain ⟨n, w, u, tl, tb, np, kn, si, hu, sp, nb, who, fac, ans, cst, lf, law, hX, hM, hW⟩ := h
  exact ⟨n, w, u, tl, tb, np, kn, si, hu, sp, nb, who, fac, ans, cst, lf, law, hX.xe q1, hM.me q2, hW⟩
theorem b1t : ¬ bi true = 0 := by decide
theorem b0f : bi false = 0 := rfl
/-- as ow_R, with how many facts and persons there are -/
def R2 (n np : Nat) (σx σm : ow_S) : Prop := ∃ w u tl tb kn si hu sp nb who fac ans cst lf law, RX n w u tl tb np kn si hu sp nb who fac ans cst lf law σx ∧ RM n w u tl tb np kn si hu sp nb who fac ans cst lf law σm ∧ RW n w u tl tb np nb who lf sp cst
theorem R2.r {n np : Nat} {σx σm : ow_S} (h : R2 n np σx σm) : ow_R σx σm := by
  obtain ⟨w, u, tl, tb, kn, si, hu, sp, nb, who, fac, ans, cst, lf, law, hX, hM, hW⟩ := h
  exact ⟨n, w, u, tl, tb, np, kn, si, hu, sp, nb, who, fac, ans, cst, lf, law, hX, hM, hW⟩
theorem R_hear {n w u tl : Nat} {tb : Nat → Nat} {np : Nat} {kn si hu : Nat → Nat} {sp : Nat → Int32} {nb : Nat} {who : Nat → Nat} {fac ans cst : Nat → Int32} {lf : Nat → Nat → Bool} {law : List aC} {σx σm : ow_S} (hX : RX n w u tl tb np kn si hu sp nb who fac ans cst lf law σx) (hM : RM n w u tl tb np kn si hu sp nb who fac ans cst lf law σm) (hW : RW n w u tl tb np nb who lf sp cst) (h40 : nb < 40) {p f : Nat} (hp : p < np) (hf : f < n) : ∃ r σx2 σm2, r ≤ 2 ∧ fX9_hear (nI p) (nI f) σx = some (nI r, σx2) ∧ fX10_ask (nI p) (nI f) σm = some (nI r, σm2) ∧ R2 n np σx2 σm2 := by
  have h10 := hW.1.2.1
  have hw : w < 2 ^ 31 := by
    have := hW.1.2.2.1
    have := pow_le h10
    omega
  obtain ⟨s3, e1, e2⟩ := X_hear hX hw h40 hp (show f < 10 by omega)
  obtain ⟨s4, g1, g2⟩ := M_ask hM hw h10 h40 hp hf
  exact ⟨_, s3, s4, hA_le, e1, g1, w, u, tl, tb, kn, si, hu, _, _, _, _, _, _, _, law, e2, g2, hW.1, hW.2.1, hW.2.2.wr h40 hp (nw_top (fun v hv => hW.2.2.2.2.1 nb v (Nat.le_refl _) hv))⟩
theorem M_askN {n np : Nat} {kn si hu : Nat → Nat} {σ : ow_S} (hn : σ.1 0 2 = nI n) (h10 : n ≤ 10) (hP : MP np kn si hu σ) {a1 a2 : Int32} (h : isP np a1 = false ∨ isP n a2 = false) : fX10_ask a1 a2 σ = some (-1, σ) := by
  rw [fX10_ask, M_isPerson hP.1 hP.2.1, bdS, ltE]
  by_cases c1 : isP np a1 = true
  · rw [c1, if_neg b1t, M_isFact hn h10, bdS]
    have c3 : isP n a2 = false := by
      rcases h with h | h
      · rw [h] at c1; cases c1
      · exact h
    rw [c3, if_pos b0f]
  · rw [Bool.not_eq_true] at c1
    rw [c1, if_pos b0f]
theorem cl_ask : si_ask ow_R := by
  intro σx σm a1 a2 ⟨n, w, u, tl, tb, np, kn, si, hu, sp, nb, who, fac, ans, cst, lf, law, hX, hM, hW⟩
  have h40 := hW.2.2.1
  have h10 := hW.1.2.1
  have h5 := hX.2.2.1.2.1
  have hR : ow_R σx σm := ⟨n, w, u, tl, tb, np, kn, si, hu, sp, nb, who, fac, ans, cst, lf, law, hX, hM, hW⟩
  have hN := fun h => M_askN (a1 := a1) (a2 := a2) hM.1.1 h10 hM.2.2.1 h
  rw [fX9_ask, X_has hX.2.2.1.1 h5, bdS, ltE]
  by_cases c1 : isP np a1 = true
  · rw [c1, if_neg b1t, X_isFact hX.1.1 h10, bdS]
    by_cases c2 : isP n a2 = true
    · rw [c2, if_neg b1t, X_isFull hX.2.2.2.2.1.1 h40, bdS]
      obtain ⟨p, hp, rfl⟩ := isP_nI (show np < 2 ^ 31 by omega) c1
      obtain ⟨f, hf, rfl⟩ := isP_nI (show n < 2 ^ 31 by omega) c2
      by_cases c3 : nb = 40
      · rw [decide_eq_true c3, if_neg b1t]
        refine ⟨_, _, σm, rfl, ?_, hR⟩
        rw [fX10_ask, M_isPerson hM.2.2.1.1 h5, bdS, c1, ltE, if_neg b1t, M_isFact hM.1.1 h10, bdS, c2, if_neg b1t, hM.2.2.2.2.1.1, c3, if_pos (show nI 40 = 40 from rfl)]
      · obtain ⟨r, sx, sm, e0, e1, e2, e3⟩ := R_hear hX hM hW (by omega) hp hf
        rw [decide_eq_false c3, if_pos b0f, e1, bdS]
        exact ⟨_, sx, sm, rfl, e2, e3.r⟩
    · rw [Bool.not_eq_true] at c2
      rw [c2, if_pos b0f]
      exact ⟨_, _, _, rfl, hN (Or.inr c2), hR⟩
  · rw [Bool.not_eq_true] at c1
    rw [c1, if_pos b0f]
    exact ⟨_, _, _, rfl, hN (Or.inl c1), hR⟩
theorem luckX {u : Nat} (h : u < 65536) : ((25173 * nI u) + 13849) &&& 65535 = nI ((25173 * u + 13849) % 65536) := by
  rw [show (25173 : Int32) = nI 25173 from rfl, show (13849 : Int32) = nI 13849 from rfl, pk_mul, nI_add, pk_andN (m := 65535) (by omega) 16 rfl]
theorem luckM {u : Nat} (h : u < 65536) : ((25173 * nI u) + 13849) - ((25173 * nI u) + 13849) / 65536 * 65536 = nI ((25173 * u + 13849) % 65536) := by
  rw [show (25173 : Int32) = nI 25173 from rfl, show (13849 : Int32) = nI 13849 from rfl, pk_mul, nI_add, show (65536 : Int32) = nI 65536 from rfl, pk_rem (by omega) (by decide) (by decide)]
theorem nz {n : Nat} (h0 : 0 < n) (h : n < 2 ^ 31) : ((nI n : Int32) != 0) = true := by
  rw [bne_iff_ne]; exact nI_ne0 h0 h
theorem R_drawl {n np : Nat} (h1 : 1 ≤ n) (hnp : 1 ≤ np) {N : Nat} (hN : N ≤ 40) : ∀ (d i c fuel : Nat) (σx σm : ow_S), i + d = N → d < fuel → R2 n np σx σm → ∃ r σx2 σm2, fX9_draw_l39 (fun (v14 : Int32) (s13 : ow_S) => some (v14, s13)) (nI N) (nI np) fuel (nI c) (nI i) σx = some (r, σx2) ∧ fX10_draw_l25 (fun (v12 : Int32) (s11 : ow_S) => some (v12, s11)) (nI N) fuel (nI c) (nI i) σm = some (r, σm2) ∧ ow_R σx2 σm2 := by
  intro d
  induction d with
  | zero =>
    intro i c fuel σx σm hi hf hR
    obtain ⟨fuel, rfl⟩ : ∃ z, fuel = z + 1 := ⟨fuel - 1, by omega⟩
    have e : i = N := by omega
    subst e
    rw [fX9_draw_l39, fX10_draw_l25, if_pos (nI_le (Nat.le_refl i) (by omega)), if_pos (nI_le (Nat.le_refl i) (by omega))]
    exact ⟨_, _, _, rfl, rfl, hR.r⟩
  | succ d ih =>
    intro i c fuel σx σm hi hf hR
    obtain ⟨fuel, rfl⟩ : ∃ z, fuel = z + 1 := ⟨fuel - 1, by omega⟩
    rw [fX9_draw_l39, fX10_draw_l25, if_neg (nI_ge (show i < N by omega) (by omega)), if_neg (nI_ge (show i < N by omega) (by omega))]
    have hRR := hR.r
    obtain ⟨w, u, tl, tb, kn, si, hu, sp, nb, who, fac, ans, cst, lf, law, hX, hM, hW⟩ := hR
    have h40 := hW.2.2.1
    have h10 := hW.1.2.1
    have h5 := hX.2.2.1.2.1
    have hu6 := hW.1.2.2.2
    rw [X_isFull hX.2.2.2.2.1.1 h40, bdS, hM.2.2.2.2.1.1]
    by_cases c3 : nb = 40
    · rw [decide_eq_true c3, if_neg b1t, c3, if_pos (show (40 : Int32) ≤ nI 40 by decide)]
      exact ⟨_, _, _, rfl, rfl, hRR⟩
    · have hX2 : RX n w ((25173 * u + 13849) % 65536) tl tb np kn si hu sp nb who fac ans cst lf law (ow_setI σx 0 13 (nI ((25173 * u + 13849) % 65536))) := hX.s0 ⟨by rw [c0 _ _ _ _ (by decide)]; exact hX.1.1, by rw [c0 _ _ _ _ (by decide)]; exact hX.1.2.1, c0s _ _ _⟩
      have hM2 : RM n w ((25173 * u + 13849) % 65536) tl tb np kn si hu sp nb who fac ans cst lf law (ow_setI σm 0 5 (nI ((25173 * u + 13849) % 65536))) := hM.s0 (by decide) ⟨by rw [c0 _ _ _ _ (by decide)]; exact hM.1.1, by rw [c0 _ _ _ _ (by decide)]; exact hM.1.2.1, c0s _ _ _⟩
      have hW2 : RW n w ((25173 * u + 13849) % 65536) tl tb np nb who lf sp cst := ⟨⟨hW.1.1, hW.1.2.1, hW.1.2.2.1, Nat.mod_lt _ (by decide)⟩, hW.2⟩
      have hlt : (25173 * u + 13849) % 65536 < 65536 := Nat.mod_lt _ (by decide)
      rw [decide_eq_false c3, if_pos b0f, if_neg (show ¬ (40 : Int32) ≤ nI nb from nI_ge (b := 40) (by omega) (by decide)), hX.1.2.2, hM.1.2.2, luckX hu6, luckM hu6, ltE, ltE, if_pos (show ((65536 : Int32) != 0) = true by decide), if_pos (show ((8 : Int32) != 0) = true by decide), if_pos (show ((8 : Int32) != 0) = true by decide), hX2.1.2.2, hX2.1.1, hM2.1.2.2, hM2.1.1, hM2.2.2.1.1, if_pos (nz (show 0 < np by omega) (by omega)), if_pos (nz (show 0 < n by omega) (by omega))]
      generalize (25173 * u + 13849) % 65536 = u2 at hX2 hM2 hW2 hlt ⊢
      rw [show (8 : Int32) = nI 8 from rfl, pk_div (a := u2) (d := 8) (by omega) (by decide) (by decide), pk_rem (a := u2) (d := np) (by omega) (by omega) (by omega), pk_rem (a := u2 / 8) (d := n) (by omega) (by omega) (by omega)]
      obtain ⟨r, sx, sm, e0, e1, e2, e3⟩ := R_hear hX2 hM2 hW2 (by omega) (Nat.mod_lt u2 (show 0 < np by omega)) (Nat.mod_lt (u2 / 8) (show 0 < n by omega))
      rw [if_pos (nz (show 0 < np by omega) (by omega)), if_pos (nz (show 0 < n by omega) (by omega)), e1, e2, bdS, bdS, ltE, ltE]
      by_cases hr : r = 2
      · subst hr
        simp only [ltE, show (nI 2 = 2) = True from eq_true rfl, if_true, nI_1]
        exact ih (i + 1) (c + 1) fuel sx sm (by omega) (by omega) e3
      · have h2 : ¬ nI r = 2 := fun e => hr (nI_inj (b := 2) (by omega) (by decide) e)
        simp only [ltE, eq_false h2, if_false, nI_1, Int32.add_zero]
        exact ih (i + 1) c fuel sx sm (by omega) (by omega) e3
theorem cl_draw : si_draw ow_R := by
  intro σx σm a1 ⟨n, w, u, tl, tb, np, kn, si, hu, sp, nb, who, fac, ans, cst, lf, law, hX, hM, hW⟩
  have h1 := hW.1.1
  have h10 := hW.1.2.1
  have h5 := hX.2.2.1.2.1
  have hR : ow_R σx σm := ⟨n, w, u, tl, tb, np, kn, si, hu, sp, nb, who, fac, ans, cst, lf, law, hX, hM, hW⟩
  rw [fX9_draw, fX10_draw, M_lies (x := a1) (A := 1) (B := 40) (a := 1) (b := 40) rfl rfl, bdS, fX3_size, bdS, ltE, ltE, hX.2.2.1.1, hX.1.1, hM.2.2.1.1]
  by_cases c : inR 1 40 a1 = true
  · obtain ⟨g1, g2⟩ := inR_t.mp c
    obtain ⟨N, hN⟩ := Int.eq_ofNat_of_zero_le (show 0 ≤ a1.toInt by omega)
    have hN2 : N ≤ 40 := by omega
    have e : a1 = nI N := of_toInt hN (by omega)
    subst e
    rw [c, if_neg b1t, if_neg (show ¬ nI N < 1 from nI_nlt (b := 1) (by omega) (by omega)), if_neg (show ¬ (40 : Int32) < nI N from nI_nlt (a := 40) hN2 (by decide))]
    by_cases c2 : np = 0
    · rw [c2, if_pos (show nI 0 = 0 from rfl), if_pos (show nI 0 < 1 by decide)]
      exact ⟨_, _, _, rfl, rfl, hR⟩
    · rw [if_neg (nI_ne0 (show 0 < np by omega) (by omega)), if_neg (show ¬ nI np < 1 from nI_nlt (b := 1) (by omega) (by omega)), if_pos (show (1 : Int32) ≤ nI n from nI_le (a := 1) h1 (by omega))]
      exact R_drawl h1 (by omega) hN2 N 0 0 ow_FU σx σm (by omega) (Nat.lt_of_le_of_lt hN2 (by decide)) ⟨w, u, tl, tb, kn, si, hu, sp, nb, who, fac, ans, cst, lf, law, hX, hM, hW⟩
  · rw [Bool.not_eq_true] at c
    rw [c, if_pos b0f]
    rw [inR_f] at c
    by_cases c2 : a1 < 1
    · rw [if_pos c2]
      exact ⟨_, _, _, rfl, rfl, hR⟩
    · rw [if_neg c2, if_pos (show (40 : Int32) < a1 by
        rw [i_lt] at c2 ⊢
        have e1 : (1 : Int32).toInt = 1 := rfl
        have e2 : (40 : Int32).toInt = 40 := rfl
        omega)]
      exact ⟨_, _, _, rfl, rfl, hR⟩
