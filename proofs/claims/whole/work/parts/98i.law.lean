/-! law() -/
abbrev xr (σ σ' : ow_S) : Prop := σ'.2 = σ.2 ∧ ∀ c, c < 15 ∨ 22 < c → σ'.1 c = σ.1 c
theorem xr_tr {a b c : ow_S} (h1 : xr a b) (h2 : xr b c) : xr a c := ⟨h2.1.trans h1.1, fun q hq => (h2.2 q hq).trans (h1.2 q hq)⟩
theorem xr_set {σ : ow_S} {q k : Nat} {v : Int32} (h1 : 15 ≤ q) (h2 : q ≤ 22) : xr σ (ow_setI σ q k v) := ⟨rfl, fun c hc => gIc _ _ _ _ _ (by omega)⟩
theorem xz_r {σ σ' : ow_S} (h : xz σ σ') : xr σ σ' := ⟨h.1, fun c hc => hc.elim (h.2.1 c) (h.2.2.1 c)⟩
theorem X_rd1 {tl n : Nat} {tb : Nat → Nat} {K : ow_S → Option (Int32 × ow_S)} {P : Option (Int32 × ow_S) → Prop} {σ : ow_S} {fuel : Nat} (hT : XT tl tb σ) (h22 : tl ≤ 220) (hnt : n ≤ tl) (hn : n ≤ 200) (h2 : σ.1 15 2 = nI n) (hf : n < fuel) (hK : ∀ s, s.2 = σ.2 → (∀ c, c ≠ 16 → s.1 c = σ.1 c) → (∀ p, p < n → s.1 16 p = nI (tb p)) → P (K s)) : P (fX6_read_1_l13 K fuel (nI 0) σ) := by
  refine lp (F := fX6_read_1_l13 K) (Inv := fun i s => s.2 = σ.2 ∧ (∀ c, c ≠ 16 → s.1 c = σ.1 c) ∧ ∀ p, p < i → s.1 16 p = nI (tb p)) (Q := P) n ?_ ?_ n 0 fuel σ (by omega) hf ⟨rfl, fun _ _ => rfl, fun p hp => by omega⟩
  · intro k i s hi ⟨h0, h1, h3⟩
    have hs : s.1 15 2 = nI n := by rw [h1 15 (by decide)]; exact h2
    have hTs : XT tl tb s := hT.fr (h1 1 (by decide)) (h1 2 (by decide))
    refine Or.inr ⟨ow_setI s 16 i (nI (tb i)), ?_, h0, fun c hc => ?_, fun p hp => ?_⟩
    · rw [fX6_read_1_l13, hs, if_neg (nI_ge hi (by omega)), X_byteAt hTs h22 (by omega), bdS, if_pos (ow_in_nI (show i < 200 by omega) (by decide)), ltE, nI_clamp (by omega), ltE, nI_1]
    · rw [gIc _ _ _ _ _ hc]; exact h1 c hc
    · rw [gIs]
      exact if_lt hp (fun e => by rw [e]) (fun e => h3 p e)
  · intro k s ⟨h0, h1, h3⟩
    have hs : s.1 15 2 = nI n := by rw [h1 15 (by decide)]; exact h2
    rw [fX6_read_1_l13, hs, if_pos (nI_le (Nat.le_refl n) (by omega))]
    exact hK s h0 h1 h3
def XRO (σ : ow_S) (r : Int32 ⊕ List aC) (o : Option (Int32 × ow_S)) : Prop := match r with
  | .inl F => ∃ s, o = some (F, s) ∧ xr σ s
  | .inr cls => ∃ s c, o = some (nI cls.length, s) ∧ xr σ s ∧ s.1 17 5 = nI c ∧ c ≤ 200 ∧ XCl s cls c ∧ cls.length ≤ 14 ∧ 1 ≤ cls.length
theorem X_read {tl n : Nat} {tb : Nat → Nat} {σ : ow_S} (hT : XT tl tb σ) (h22 : tl ≤ 220) (hb : ∀ i, tb i < 256) (hn : n ≤ 200) (hnt : n ≤ tl) : XRO σ (pLaw (cxN tb n) n 202 [] 0) (fX6_read_1 (nI n) σ) := by
  have hFU : 202 < ow_FU := by decide
  rw [fX6_read_1, if_neg (show ¬ (200 : Int32) < nI n from nI_nlt (a := 200) (by omega) (by decide)), ltE, z0]
  refine X_rd1 (P := fun r => XRO σ (pLaw (cxN tb n) n 202 [] 0) r) (hT.fr (gIc _ _ _ _ _ (by decide)) (gIc _ _ _ _ _ (by decide))) h22 hnt hn (by rw [gIs, if_pos rfl]) (by omega) ?_
  intro s h0 h1 h2
  have hr1 : xr σ s := ⟨h0, fun c hc => by rw [h1 c (by omega), gIc _ _ _ _ _ (by omega)]⟩
  have e152 : s.1 15 2 = nI n := by rw [h1 15 (by decide), gIs, if_pos rfl]
  rw [ltE, ltE, fX1_clear_17, ltE, ltE, bdS]
  have hr2 : xr σ (ow_setI (ow_setI (ow_setI (ow_setI s 15 3 (nI 0)) 15 4 (nI 0)) 17 5 0) 17 6 0) := xr_tr hr1 (xr_tr (xr_set (by decide) (by decide)) (xr_tr (xr_set (by decide) (by decide)) (xr_tr (xr_set (by decide) (by decide)) (xr_set (by decide) (by decide)))))
  have hv : XV tb n (ow_setI (ow_setI (ow_setI (ow_setI s 15 3 (nI 0)) 15 4 (nI 0)) 17 5 0) 17 6 0) 0 0 := by
    refine ⟨?_, ?_, ?_, fun k hk => ?_, ?_⟩
    · rw [gIn _ (by decide), gIn _ (by decide), gIs, if_neg (by decide), gIs, if_pos rfl]
    · rw [gIn _ (by decide), gIn _ (by decide), gIs, if_neg (by decide), gIs, if_neg (by decide)]; exact e152
    · rw [gIn _ (by decide), gIn _ (by decide), gIs, if_pos rfl]; rfl
    · rw [gIn _ (by decide), gIn _ (by decide), gIn _ (by decide), gIn _ (by decide)]; exact h2 k hk
    · rw [gIs, if_neg (by decide), gIs, if_pos rfl]; rfl
  have hC : XCl (ow_setI (ow_setI (ow_setI (ow_setI s 15 3 (nI 0)) 15 4 (nI 0)) 17 5 0) 17 6 0) [] 0 := ⟨by rw [gIs, if_pos rfl]; rfl, fun k cl hk => by simp at hk⟩
  have hz : (0 : Int32) = nI 0 := z0
  generalize ow_setI (ow_setI (ow_setI (ow_setI s 15 3 (nI 0)) 15 4 (nI 0)) 17 5 0) 17 6 0 = s9 at hr2 hv hC ⊢
  have hI := X_clauses hb hn (K := fun (s14 : ow_S) => ow_lt (fun (v16 : Int32) (s15 : ow_S) => some (v16, s15)) (fun j122 => if (s14.1 15 4) = nI 0 then (ow_bd (fX1_clauses_17 s14) (fun r18 s17 => j122 r18 s17)) else (j122 (s14.1 15 4) s14))) 202 [] 0 0 ow_FU s9 hv (by omega) (Nat.le_refl _) hC (by simp) (by omega) (by simp only [List.length_nil]; omega)
  unfold XRO
  generalize pLaw (cxN tb n) n 202 [] 0 = R at hI ⊢
  cases R with
  | inl F =>
    obtain ⟨s4, a1, a2, a3⟩ := hI
    refine ⟨s4, ?_, xr_tr hr2 (xz_r a2)⟩
    refine Eq.trans a1 ?_
    rw [ltE, a3.1, if_neg (show ¬ F = nI 0 from a3.2.1)]
  | inr cls =>
    obtain ⟨s4, j, c', a1, a2, a3, a4, a5, a6, a7⟩ := hI
    refine ⟨s4, c', ?_, xr_tr hr2 (xz_r a2), a3.2.2.2.2, a4, a5, a6, a7⟩
    refine Eq.trans a1 ?_
    rw [ltE, a3.2.2.1, if_pos (show (0 : Int32) = nI 0 from z0), fX1_clauses_17, bdS, a5.1]
theorem cl_law : si_law ow_R := by
  intro σx σm a1 ⟨n, w, u, tl, tb, np, kn, si, hu, sp, nb, who, fac, ans, cst, lf, law, hX, hM, hW⟩
  have h22 := hW.2.1.1
  have hb := hW.2.1.2
  have hFU : 202 < ow_FU := by decide
  have hR : ow_R σx σm := ⟨n, w, u, tl, tb, np, kn, si, hu, sp, nb, who, fac, ans, cst, lf, law, hX, hM, hW⟩
  rw [fX10_law, M_lies (x := a1) (A := 1) (B := 200) (a := 1) (b := 200) rfl rfl, bdS, ltE, fX9_law, ltE]
  have t1 : (1 : Int32).toInt = 1 := rfl
  have t200 : (200 : Int32).toInt = 200 := rfl
  by_cases c1 : inR 1 200 a1 = true
  · obtain ⟨g1, g2⟩ := inR_t.mp c1
    rw [c1, if_neg b1t, if_neg (by rw [i_lt]; omega), if_neg (by rw [i_lt]; omega)]
    obtain ⟨N, hN⟩ := Int.eq_ofNat_of_zero_le (show 0 ≤ a1.toInt by omega)
    have hN2 : N ≤ 200 := by omega
    have e : a1 = nI N := of_toInt hN (by omega)
    subst e
    rw [fX7_size, bdS, hX.2.1.1, hM.2.1.1]
    by_cases c3 : N ≤ tl
    · have hM2 : RM n w u 0 tb np kn si hu sp nb who fac ans cst lf law (ow_setI σm 0 1 0) := hM.tt mtq_z hM.2.1.z
      have hx := X_read (n := N) hX.2.1 h22 hb hN2 c3
      rw [if_pos (nI_le c3 (by omega)), if_pos (nI_le c3 (by omega)), ltE, ltE, ltE, ltE, ltE, ltE]
      have z9 : mz (ow_setI σm 0 1 0) (ow_setI (ow_setI (ow_setI (ow_setI (ow_setI (ow_setI σm 0 1 0) 0 24 0) 0 25 (nI N)) 0 26 0) 0 27 0) 0 28 0) := mz_tr (mz_0 (by decide)) (mz_tr (mz_0 (by decide)) (mz_tr (mz_0 (by decide)) (mz_tr (mz_0 (by decide)) (mz_0 (by decide)))))
      have hu9 : MU tb N (ow_setI (ow_setI (ow_setI (ow_setI (ow_setI (ow_setI σm 0 1 0) 0 24 0) 0 25 (nI N)) 0 26 0) 0 27 0) 0 28 0) 0 0 := by
        refine ⟨?_, ?_, ?_, ?_, fun k hk => ?_⟩
        · rw [gIs, if_neg (by decide), gIs, if_neg (by decide), gIs, if_neg (by decide), gIs, if_neg (by decide), gIs, if_pos rfl]; rfl
        · rw [gIs, if_neg (by decide), gIs, if_neg (by decide), gIs, if_neg (by decide), gIs, if_pos rfl]
        · rw [gIs, if_neg (by decide), gIs, if_neg (by decide), gIs, if_pos rfl]
        · rw [gIs, if_pos rfl]; rfl
        · rw [z9.2 1 (by decide) (by decide)]; exact hM2.2.1.2 k hk
      have hC9 : MCl (ow_setI (ow_setI (ow_setI (ow_setI (ow_setI (ow_setI σm 0 1 0) 0 24 0) 0 25 (nI N)) 0 26 0) 0 27 0) 0 28 0) [] 0 := ⟨by rw [gIs, if_neg (by decide), gIs, if_pos rfl]; rfl, fun k cl hk => by simp at hk⟩
      generalize ow_setI (ow_setI (ow_setI (ow_setI (ow_setI (ow_setI σm 0 1 0) 0 24 0) 0 25 (nI N)) 0 26 0) 0 27 0) 0 28 0 = s9 at z9 hu9 hC9 ⊢
      have hm := M_clauses hb hN2 (K := fun (s23 : ow_S) => if 0 ≤ (s23.1 0 26) then (fX10_law_l142 (fun (s29 : ow_S) => fX10_law_l206 ow_FU 0 s29) ow_FU 0 s23) else (some ((s23.1 0 26), s23))) 202 [] 0 0 ow_FU s9 hu9 (by omega) (Nat.le_refl _) hC9 (by simp) (by omega) (by simp only [List.length_nil]; omega)
      generalize pLaw (cxN tb N) N 202 [] 0 = R at hx hm
      have hmz : ∀ s, mz (ow_setI σm 0 1 0) s → meq (ow_setI σm 0 1 0) s := fun s q => ⟨fun k hk => q.1 k (by omega), fun c hc => by
        by_cases e0 : c = 0
        · subst e0; exact absurd hc (by decide)
        · refine q.2 c e0 ?_
          by_cases e1 : c < 12 ∨ 18 < c
          · exact e1
          · exfalso
            have : c = 12 ∨ c = 13 ∨ c = 14 ∨ c = 15 ∨ c = 16 ∨ c = 17 ∨ c = 18 := by omega
            rcases this with rfl | rfl | rfl | rfl | rfl | rfl | rfl <;> exact absurd hc (by decide)⟩
      cases R with
      | inl F =>
        obtain ⟨sx, a1, a2⟩ := hx
        obtain ⟨sm, b1, b2, b3⟩ := hm
        have hF := b3.2
        have hF2 : F ≤ 0 := by
          rw [i_lt] at hF
          rw [i_le]
          omega
        have hF3 : ¬ (0 : Int32) ≤ sm.1 0 26 := by
          rw [b3.1, i_le]
          rw [i_lt] at hF
          omega
        rw [a1, bdS, fX7_clear, ltE, bdS, ltE, if_pos hF2, b1, if_neg hF3, b3.1]
        have xe : xeq σx sx := ⟨fun c hc => a2.2 c (by
          by_cases e1 : c < 15 ∨ 22 < c
          · exact e1
          · exfalso
            have : c = 15 ∨ c = 16 ∨ c = 17 ∨ c = 18 ∨ c = 19 ∨ c = 20 ∨ c = 21 ∨ c = 22 := by omega
            rcases this with rfl | rfl | rfl | rfl | rfl | rfl | rfl | rfl <;> exact absurd hc (by decide)), fun c _ => by rw [a2.1]⟩
        exact ⟨_, _, _, rfl, rfl, n, w, u, 0, tb, np, kn, si, hu, sp, nb, who, fac, ans, cst, lf, law, (hX.xe xe).tt xtq_z (hX.xe xe).2.1.z, hM2.me (hmz _ (mz_tr z9 b2)), hW.1, ⟨by omega, hb⟩, hW.2.2⟩
      | inr cls =>
        obtain ⟨sx, cc, a1, a2, a3, a4, a5, a6, a7⟩ := hx
        obtain ⟨sm, cm, b1, b2, b3, b4, b5, b6, b7, b8⟩ := hm
        have q2 := mz_tr z9 b2
        have hS : XCl (ow_setI sx 1 1 0) cls cc := by
          unfold XCl
          rw [gIc _ _ _ _ _ (show 17 ≠ 1 by decide), gIc _ _ _ _ _ (show 18 ≠ 1 by decide), gIc _ _ _ _ _ (show 19 ≠ 1 by decide), gIc _ _ _ _ _ (show 20 ≠ 1 by decide), gIc _ _ _ _ _ (show 21 ≠ 1 by decide), gIc _ _ _ _ _ (show 22 ≠ 1 by decide)]
          exact a5
        obtain ⟨s2, d1, d2, d3, d4⟩ := X_put hS (by rw [gIn _ (by decide)]; exact a3) a4 a6
        obtain ⟨s3, f1, f2, f3, f4⟩ := M_put b6 b4 b5 b7
        have EX : ∀ c, c < 15 → c ≠ 1 → s2.1 c = σx.1 c := fun c h1 h2 => by rw [d3 c (by omega), gIc _ _ _ _ _ h2, a2.2 c (by omega)]
        have hT2 : XT 0 tb s2 := (hX.2.1.fr (σ' := sx) (a2.2 1 (by decide)) (a2.2 2 (by decide))).z.fr (d3 1 (by decide)) (d3 2 (by decide))
        have EM : ∀ c, c ≠ 0 → c < 6 → s3.1 c = (ow_setI σm 0 1 0).1 c := fun c h0 h1 => by rw [f2 c h0 (by omega), q2.2 c h0 (by omega)]
        have EM0 : ∀ k, k < 11 → s3.1 0 k = (ow_setI σm 0 1 0).1 0 k := fun k hk => by rw [f3 k (by omega), q2.1 k (by omega)]
        obtain ⟨x1, x2, x3, -, -, -, -⟩ := hX
        obtain ⟨m1, m2, m3, -, -, -, -⟩ := hM2
        obtain ⟨s4, s5, e1, e2, r1, r2, r3⟩ := XR_start (x1.fr (EX 0 (by decide) (by decide))) hT2 (x3.fr (EX 3 (by decide) (by decide)) (EX 4 (by decide) (by decide)) (EX 5 (by decide) (by decide)) (EX 7 (by decide) (by decide))) d4 (m1.fr (EM0 2 (by decide)) (EM0 4 (by decide)) (EM0 5 (by decide))) (m2.fr (EM0 1 (by decide)) (EM 1 (by decide) (by decide))) (m3.fr (EM0 3 (by decide)) (EM 3 (by decide) (by decide)) (EM 2 (by decide) (by decide)) (EM 4 (by decide) (by decide))) f4 hW.1 ⟨Nat.zero_le _, hb⟩
        have hpos : ¬ nI cls.length ≤ 0 := nI_nle (by omega) (by omega)
        rw [a1, bdS, fX7_clear, ltE, bdS, ltE, if_neg hpos, fX6_result, bdS, d1, bdS, e1, bdS, b1, if_pos (show (0 : Int32) ≤ sm.1 0 26 by rw [b3]; decide), f1, e2, bdS]
        exact ⟨_, s4, s5, rfl, by rw [r2.2.2.2.2.2.2.1], _, _, _, _, _, _, _, _, _, _, _, _, _, _, _, _, _, r1, r2, r3⟩
    · rw [if_neg (nI_ge (by omega) (by omega)), if_neg (nI_ge (by omega) (by omega))]
      exact ⟨_, _, _, rfl, rfl, hR⟩
  · have g : ¬ (1 ≤ a1.toInt ∧ a1.toInt ≤ 200) := fun h => c1 (inR_t.mpr h)
    rw [Bool.not_eq_true] at c1
    rw [c1, if_pos b0f]
    by_cases c2 : a1 < 1
    · rw [if_pos c2]
      exact ⟨_, _, _, rfl, rfl, hR⟩
    · rw [if_neg c2, if_pos (by rw [i_lt] at c2 ⊢; omega)]
      exact ⟨_, _, _, rfl, rfl, hR⟩
