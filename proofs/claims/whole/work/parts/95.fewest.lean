/-! fewest -/
theorem X_alone {W : Nat → Bool} {O f n : Nat} {σ : ow_S} (h10 : n ≤ 10) (h : wS W (σ.2 33)) (hO : O < 2 ^ n) (hT : ∀ x, 2 ^ n ≤ x → W x = false) (hf : f < 10) : ∃ σ', fX5_firstAlone_32 (nI O) (nI f) (nI n) σ = some (fi (fun g => bt O g && prv W (2 ^ g) f) n, σ') ∧ xw 25 σ σ' := by
  have hp := pow_le h10
  rw [fX5_firstAlone_32, z0]
  refine lp (F := fX5_firstAlone_32_l3 (nI O) (nI f) (nI n)) (Inv := fun i s => xw 25 σ s ∧ ∀ q, q < i → (bt O q && prv W (2 ^ q) f) = false) (Q := fun r => ∃ σ', r = some (fi (fun g => bt O g && prv W (2 ^ g) f) n, σ') ∧ xw 25 σ σ') n ?_ ?_ n 0 ow_FU σ (Nat.zero_add _) (Nat.lt_of_le_of_lt h10 (by decide)) ⟨xw.rf, fun q hq => absurd hq (by omega)⟩
  · intro m i s hi ⟨h1, h2⟩
    have h33 : wS W (s.2 33) := by rw [h1.2 33 (by decide)]; exact h
    have next : ∀ s', xw 25 σ s' → (bt O i && prv W (2 ^ i) f) = false → ∃ b', fX5_firstAlone_32_l3 (nI O) (nI f) (nI n) m (nI (i + 1)) s' = fX5_firstAlone_32_l3 (nI O) (nI f) (nI n) m (nI (i + 1)) b' ∧ xw 25 σ b' ∧ ∀ q, q < i + 1 → (bt O q && prv W (2 ^ q) f) = false := fun s' q1 q2 => ⟨s', rfl, q1, fun q hq => by
      by_cases e : q = i
      · rw [e]; exact q2
      · exact h2 q (by omega)⟩
    rw [fX5_firstAlone_32_l3, if_neg (nI_ge hi (by omega)), ltE]
    by_cases c1 : bt O i = true
    · obtain ⟨s1, a1, a2⟩ := X_proves (op := 2 ^ i) h10 h33 (Nat.pow_lt_pow_right (by decide) hi) hT hf
      rw [if_pos (by rw [bt_eq (by omega) (by omega)]; exact c1), nI_shl1 (by omega), a1, bdS]
      by_cases c2 : prv W (2 ^ i) f = true
      · rw [c2, if_neg b1t]
        refine Or.inl ⟨s1, ?_, h1.tr a2⟩
        rw [fi_at hi (by rw [c1, c2]; rfl) h2]
      · rw [Bool.not_eq_true] at c2
        rw [c2, if_pos b0f]
        dsimp only
        rw [ltE, nI_1]
        exact Or.inr (next s1 (h1.tr a2) (by rw [c2, Bool.and_false]))
    · rw [if_neg (by rw [bt_eq (by omega) (by omega)]; exact c1)]
      dsimp only
      rw [ltE, nI_1]
      rw [Bool.not_eq_true] at c1
      exact Or.inr (next s h1 (by rw [c1, Bool.false_and]))
  · intro m s ⟨h1, h2⟩
    refine ⟨s, ?_, h1⟩
    rw [fX5_firstAlone_32_l3, if_pos (nI_le (Nat.le_refl n) (by omega)), fi_no h2]
theorem prv_una {W : Nat → Bool} {f n : Nat} (h10 : n ≤ 10) (hT : ∀ x, 2 ^ n ≤ x → W x = false) : prv W 0 f = true ↔ una f W := by
  constructor
  · intro h v u hv hu
    apply Classical.byContradiction
    intro ne
    have : prv W 0 f = false := (prv_f h10 hT).mpr ⟨u, v, alk_t.mpr ⟨hu, hv, ne, by rw [Nat.and_zero, Nat.and_zero]⟩⟩
    rw [h] at this
    cases this
  · intro h
    rw [← Bool.not_eq_false]
    intro c
    obtain ⟨w, u, h2⟩ := (prv_f h10 hT).mp c
    have := alk_t.mp h2
    exact this.2.2.1 (h u w this.2.1 this.1)
theorem prv_one {W : Nat → Bool} {f g n : Nat} (h10 : n ≤ 10) (hT : ∀ x, 2 ^ n ≤ x → W x = false) : prv W (2 ^ g) f = true ↔ una f (cut W g false) ∧ una f (cut W g true) := by
  have e : ∀ w u, (u &&& 2 ^ g = w &&& 2 ^ g) ↔ bt u g = bt w g := fun w u => xor_op.symm.trans xor_f
  constructor
  · intro h
    have key : ∀ b, una f (cut W g b) := fun b v u hv hu => by
      rw [cut_t] at hv hu
      apply Classical.byContradiction
      intro ne
      have : prv W (2 ^ g) f = false := (prv_f h10 hT).mpr ⟨u, v, alk_t.mpr ⟨hu.1, hv.1, ne, (e u v).mpr (by rw [hv.2, hu.2])⟩⟩
      rw [h] at this
      cases this
    exact ⟨key false, key true⟩
  · rintro ⟨h0, h1⟩
    rw [← Bool.not_eq_false]
    intro c
    obtain ⟨w, u, h2⟩ := (prv_f h10 hT).mp c
    obtain ⟨a1, a2, a3, a4⟩ := alk_t.mp h2
    have hb := (e w u).mp a4
    cases hw : bt w g with
    | false => exact a3 (h0 u w (cut_t.mpr ⟨a2, by rw [hb, hw]⟩) (cut_t.mpr ⟨a1, hw⟩))
    | true => exact a3 (h1 u w (cut_t.mpr ⟨a2, by rw [hb, hw]⟩) (cut_t.mpr ⟨a1, hw⟩))
theorem M_few86 {W : Nat → Bool} {O f n N g : Nat} {s : ow_S} (h10 : n ≤ 10) (hO : O < 2 ^ n) (h : ∀ st, st < 3 ^ n → ∃ q, s.1 30 st = nI q ∧ AS W O f n st q) (h1 : 1 ≤ N) (hN6 : N ≤ 16) (hN : ∀ k, N ≤ k ↔ solv O f k W) (hg : g < n) (hgood : good W O f N g) (hl : ∀ h, h < g → ¬ good W O f N h) {K : Int32 → ow_S → Option (Int32 × ow_S)} : fX10_fewest_l86 K (nI O) (nI (3 ^ n - 1)) (nI N) ow_FU (nI 0) s = K (nI g) s := by
  have hp := pow_le h10
  have h3 := p3le h10
  have p3n := p3 n
  have key : ∀ i, i < n → bt O i = true → ∃ c, fX10_asksBy (nI (3 ^ n - 1)) (nI i) s = some (nI c, s) ∧ c ≤ 1000001 ∧ (c = N ↔ good W O f N i) := by
    intro i hi ho
    have h2 : dg (3 ^ n - 1) i = 2 := dg_top hi
    have y1 := chd_lt h2 true
    have y0 := chd_lt h2 false
    obtain ⟨c1, e1, A1⟩ := h (chd (3 ^ n - 1) i true) (by omega)
    obtain ⟨c0, e0, A0⟩ := h (chd (3 ^ n - 1) i false) (by omega)
    have l1 : c1 ≤ 1000000 := by have := A1.1; omega
    have l0 : c0 ≤ 1000000 := by have := A0.1; omega
    have sub : ∀ b k, solv O f k (sM W n (chd (3 ^ n - 1) i b)) ↔ solv O f k (cut W i b) := fun b k => (chd_solv (ch := fun i => i) hi h2 b).trans ⟨solv_sub k (fun v hv => cut_t.mpr ⟨stG_top.mpr (cut_t.mp hv).1, (cut_t.mp hv).2⟩), solv_sub k (fun v hv => cut_t.mpr ⟨stG_top.mp (cut_t.mp hv).1, (cut_t.mp hv).2⟩)⟩
    refine ⟨abN c1 c0, M_asksBy (by omega) (by omega) h2 e1 e0 l1 l0, ?_, ?_⟩
    · unfold abN
      split
      · omega
      · split <;> omega
    · constructor
      · intro e
        have := (ab_le (k := N) (c1 := c1) (c0 := c0) (by omega)).mp (by omega)
        exact ⟨ho, (sub false _).mp ((A0.2 _ (by omega)).mp this.2.2), (sub true _).mp ((A1.2 _ (by omega)).mp this.2.1)⟩
      · rintro ⟨-, g0, g1⟩
        have z0 := (A0.2 _ (by omega)).mpr ((sub false (N - 1)).mpr g0)
        have z1 := (A1.2 _ (by omega)).mpr ((sub true (N - 1)).mpr g1)
        have hle := (ab_le (k := N) (c1 := c1) (c0 := c0) (by omega)).mpr ⟨h1, z1, z0⟩
        apply Classical.byContradiction
        intro ne
        have hlt := (ab_le (k := N - 1) (c1 := c1) (c0 := c0) (by omega)).mp (by omega)
        have s0 := (sub false _).mp ((A0.2 _ (by omega)).mp hlt.2.2)
        have s1 := (sub true _).mp ((A1.2 _ (by omega)).mp hlt.2.1)
        obtain ⟨k', hk'⟩ : ∃ k', N - 1 = k' + 1 := ⟨N - 2, by omega⟩
        have : solv O f (N - 1) W := by
          rw [hk'] at s0 s1 ⊢
          exact Or.inr ⟨i, ho, s0, s1⟩
        have := (hN _).mpr this
        omega
  refine lp (F := fX10_fewest_l86 K (nI O) (nI (3 ^ n - 1)) (nI N)) (Inv := fun _ s' => s' = s) (Q := fun r => r = K (nI g) s) g ?_ ?_ g 0 ow_FU s (Nat.zero_add _) (Nat.lt_of_lt_of_le hg (Nat.le_trans h10 (by decide))) rfl
  · intro m i s' hi e
    subst e
    rw [fX10_fewest_l86, M_has (by omega) (by omega), bdS, ltE]
    right
    refine ⟨s', ?_, rfl⟩
    by_cases ho : bt O i = true
    · obtain ⟨c, k1, k2, k3⟩ := key i (by omega) ho
      rw [ho, if_neg b1t, k1, bdS, if_neg (fun e => hl i hi (k3.mp (nI_inj (by omega) (by omega) e)))]
      exact congrArg (fun v => fX10_fewest_l86 K (nI O) (nI (3 ^ n - 1)) (nI N) m v s') (nI_1 i)
    · rw [Bool.not_eq_true] at ho
      rw [ho, if_pos b0f]
      exact congrArg (fun v => fX10_fewest_l86 K (nI O) (nI (3 ^ n - 1)) (nI N) m v s') (nI_1 i)
  · intro m s' e
    subst e
    obtain ⟨c, k1, k2, k3⟩ := key g hg hgood.1
    rw [fX10_fewest_l86, M_has (by omega) (by omega), bdS, ltE, hgood.1, if_neg b1t, k1, bdS, if_pos (by rw [k3.mpr hgood])]
theorem cl_fewest : si_fewest ow_R := by
  intro σx σm a1 a2 ⟨n, w, u, tl, tb, np, kn, si, hu, sp, nb, who, fac, ans, cst, lf, law, hX, hM, hW⟩
  have h40 := hW.2.2.1
  have h10 := hW.1.2.1
  have hp := pow_le h10
  have h3 := p3le h10
  have p3n := p3 n
  have hR : ow_R σx σm := ⟨n, w, u, tl, tb, np, kn, si, hu, sp, nb, who, fac, ans, cst, lf, law, hX, hM, hW⟩
  have hT : ∀ x, 2 ^ n ≤ x → lf nb x = false := fun x hx => hW.2.2.2.2.1 nb x (Nat.le_refl _) hx
  have t0 : (0 : Int32).toInt = 0 := rfl
  have t2 : (2 : Int32).toInt = 2 := rfl
  rw [fX9_fewest, fX10_fewest, X_isFact hX.1.1 h10, M_isFact hM.1.1 h10, bdS, bdS, ltE, ltE, M_lies (x := a2) (A := 0) (B := 2) (a := 0) (b := 2) rfl rfl, bdS]
  by_cases c1 : isP n a1 = true
  · obtain ⟨f, hf, rfl⟩ := isP_nI (show n < 2 ^ 31 by omega) c1
    rw [c1, if_neg b1t, if_neg b1t]
    by_cases c2 : inR 0 2 a2 = true
    · obtain ⟨k1, k2⟩ := inR_t.mp c2
      rw [c2, if_neg b1t, if_neg (by rw [i_lt]; omega), if_neg (by rw [i_lt]; omega), X_empty_32 hX.2.2.2.2.2.1.2.1, bdS, M_leftMany hM.1.1 h10 hM.2.2.2.2.1.1 h40 hM.2.2.2.2.2.1, bdS]
      by_cases c3 : ex 1024 (lf nb) = false
      · rw [c3, if_neg (by decide), if_pos ((lN_z h10 hT).mpr c3)]
        exact ⟨_, _, _, rfl, rfl, hR⟩
      · have c3' : ex 1024 (lf nb) = true := by rw [← Bool.not_eq_false]; exact c3
        rw [c3', if_pos (by decide), if_neg (fun hh => c3 ((lN_z h10 hT).mp hh))]
        have hop := bs_lt (opF law np kn si hu) n
        obtain ⟨s2, e1, e2⟩ := M_open hM.1.1 h10 hM.2.2.2.2.2.2 hM.2.2.1
        have hM2 := hM.me e2.me
        obtain ⟨s3, g1, g2, g3⟩ := M_laysS hM2 h10 h40 hT hop (show f < 10 by omega)
        have hM3 := hM2.me g2
        obtain ⟨q, qa, qb⟩ := g3 (3 ^ n - 1) (by omega)
        have htop : ∀ k, solv (bs (opF law np kn si hu) n) f k (sM (lf nb) n (3 ^ n - 1)) ↔ solv (bs (opF law np kn si hu) n) f k (lf nb) := fun k => ⟨solv_sub k (fun v hv => stG_top.mpr hv), solv_sub k (fun v hv => stG_top.mp hv)⟩
        have hqk : ∀ k, k < 1000000 → (q ≤ k ↔ solv (bs (opF law np kn si hu) n) f k (lf nb)) := fun k hk => (qb.2 k hk).trans (htop k)
        have hq6 := qb.1
        have ers : nI (3 ^ n) - 1 = nI (3 ^ n - 1) := by rw [show (1 : Int32) = nI 1 from rfl, pk_sub (by omega)]
        rw [e1, bdS, g1, bdS, M_statesMany hM3.1.1 h10, bdS, ltE, ers, if_pos (ow_in_nI (show 3 ^ n - 1 < 59049 by omega) (by decide)), ltE, nI_clamp (by omega), qa]
        obtain ⟨s4, d1, d2⟩ := X_proves (op := 0) (f := f) h10 hX.2.2.2.2.2.1.2.1 (show 0 < 2 ^ n by omega) hT (show f < 10 by omega)
        have d1' : fX5_proves_32 0 (nI f) (nI n) σx = some (bi (prv (lf nb) 0 f), s4) := d1
        have hX4 := hX.xe (d2.xe rfl)
        rw [hX.1.1, d1', bdS]
        have z6 : (nI q = 1000000) ↔ q = 1000000 := nI_eq (b := 1000000) (by omega) (by decide)
        have zq : (nI q = 0) ↔ q = 0 := nI_eq (b := 0) (by omega) (by decide)
        by_cases c4 : una f (lf nb)
        · have hq0 : q = 0 := by
            have := (hqk 0 (by decide)).mpr c4
            omega
          rw [(prv_una h10 hT).mpr c4, if_neg b1t, ltE, if_neg (show ¬ nI q = 1000000 from fun h => by have := z6.mp h; omega), if_pos (zq.mpr hq0), hq0]
          by_cases c5 : a2 = 0
          · rw [if_pos c5, if_pos c5]
            exact ⟨_, _, _, rfl, rfl, n, w, u, tl, tb, np, kn, si, hu, sp, nb, who, fac, ans, cst, lf, law, hX4, hM3, hW⟩
          · rw [if_neg c5, if_neg c5]
            exact ⟨_, _, _, rfl, rfl, n, w, u, tl, tb, np, kn, si, hu, sp, nb, who, fac, ans, cst, lf, law, hX4, hM3, hW⟩
        · have hp0 : prv (lf nb) 0 f = false := by
            rw [← Bool.not_eq_true, prv_una h10 hT]
            exact c4
          obtain ⟨s5, x1, x2⟩ := X_openF hX4.1.1 h10 hX4.2.2.2.2.2.2 hX4.2.2.1
          have hX5 := hX4.xe x2.xe
          obtain ⟨s6, y1, y2⟩ := X_proves (op := bs (opF law np kn si hu) n) (f := f) h10 hX5.2.2.2.2.2.1.2.1 hop hT (show f < 10 by omega)
          have hX6 := hX5.xe (y2.xe rfl)
          rw [hp0, if_pos b0f, x1, bdS, hX5.1.1, y1, bdS]
          by_cases c6 : prv (lf nb) (bs (opF law np kn si hu) n) f = true
          · obtain ⟨s7, z1, z2⟩ := X_alone (O := bs (opF law np kn si hu) n) (f := f) h10 hX6.2.2.2.2.2.1.2.1 hop hT (show f < 10 by omega)
            have hX7 := hX6.xe (z2.xe rfl)
            rw [c6, if_neg b1t, hX6.1.1, z1, bdS, ltE]
            have fin : ∀ (N g : Nat) (s8 : ow_S), xeq s7 s8 → 1 ≤ N → N ≤ 16 → (∀ k, N ≤ k ↔ solv (bs (opF law np kn si hu) n) f k (lf nb)) → g < n → good (lf nb) (bs (opF law np kn si hu) n) f N g → (∀ h, h < g → ¬ good (lf nb) (bs (opF law np kn si hu) n) f N h) → ∃ (r : Int32) (σx2 σm2 : ow_S), (if a2 = 0 then some (nI N, s8) else ow_lt (fun (v18 : Int32) (s17 : ow_S) => some (v18, s17)) (fun j174 => if a2 = 1 then (j174 (nI g) s8) else (ow_bd (fX9_firstWhoOpens (nI g) s8) (fun r20 s19 => j174 r20 s19)))) = some (r, σx2) ∧ (if nI q = 1000000 then some (-2, s3) else if a2 = 0 then some (nI q, s3) else if nI q = 0 then some (-3, s3) else fX10_fewest_l86 (fun (v22 : Int32) (s21 : ow_S) => ow_lt (fun (v24 : Int32) (s23 : ow_S) => some (v24, s23)) (fun j130 => if a2 = 1 then (j130 v22 s21) else (ow_bd (fX10_firstWho v22 s21) (fun r26 s25 => j130 r26 s25)))) (nI (bs (opF law np kn si hu) n)) (nI (3 ^ n - 1)) (nI q) ow_FU 0 s3) = some (r, σm2) ∧ ow_R σx2 σm2 := by
              intro N g s8 q8 f1 f2 f3 f4 f5 f6
              have hX8 := hX7.xe q8
              have eq1 : q = N := by
                have a := (hqk N (by omega)).mpr ((f3 N).mp (Nat.le_refl _))
                have b := (f3 q).mpr ((hqk q (by omega)).mp (Nat.le_refl _))
                omega
              have hM86 := fun (K : Int32 → ow_S → Option (Int32 × ow_S)) => M_few86 (K := K) h10 hop g3 f1 f2 f3 f4 f5 f6
              rw [if_neg (show ¬ nI q = 1000000 from fun h => by have := z6.mp h; omega), if_neg (show ¬ nI q = 0 from fun h => by have := zq.mp h; omega), eq1]
              by_cases c8 : a2 = 0
              · rw [if_pos c8, if_pos c8]
                exact ⟨_, _, _, rfl, rfl, n, w, u, tl, tb, np, kn, si, hu, sp, nb, who, fac, ans, cst, lf, law, hX8, hM3, hW⟩
              · rw [if_neg c8, if_neg c8, ltE, z0, hM86, ltE]
                by_cases c9 : a2 = 1
                · rw [if_pos c9, if_pos c9]
                  exact ⟨_, _, _, rfl, rfl, n, w, u, tl, tb, np, kn, si, hu, sp, nb, who, fac, ans, cst, lf, law, hX8, hM3, hW⟩
                · obtain ⟨s9, u1, u2⟩ := X_firstW hX8.2.2.2.2.2.2 hX8.2.2.1 (show g < 10 by omega)
                  obtain ⟨s10, v1, v2⟩ := M_firstW hM3.2.2.2.2.2.2 hM3.2.2.1 (show g < 10 by omega)
                  rw [if_neg c9, if_neg c9, u1, bdS, v1, bdS]
                  exact ⟨_, _, _, rfl, rfl, n, w, u, tl, tb, np, kn, si, hu, sp, nb, who, fac, ans, cst, lf, law, hX8.xe u2.xe, hM3.me v2.me, hW⟩
            rcases fi_or (fun g => bt (bs (opF law np kn si hu) n) g && prv (lf nb) (2 ^ g) f) n with ⟨g, hg, p1, p2, p3'⟩ | ⟨p1, p2⟩
            · rw [p3', if_neg (ni_m1 (by omega))]
              have go : ∀ h, good (lf nb) (bs (opF law np kn si hu) n) f 1 h ↔ (bt (bs (opF law np kn si hu) n) h && prv (lf nb) (2 ^ h) f) = true := fun h => by
                rw [Bool.and_eq_true, prv_one h10 hT]
                rfl
              have hg1 := (go g).mpr p1
              refine fin 1 g s7 xeq.rf (Nat.le_refl _) (by decide) (fun k => ?_) hg hg1 (fun h hh hgd => ?_)
              · constructor
                · intro h
                  have : solv (bs (opF law np kn si hu) n) f 1 (lf nb) := Or.inr ⟨g, hg1⟩
                  exact solv_le' this h
                · intro h
                  cases k with
                  | zero => exact absurd h c4
                  | succ k => omega
              · have := (go h).mp hgd
                have h9 : (bt (bs (opF law np kn si hu) n) h && prv (lf nb) (2 ^ h) f) = false := p2 h hh
                rw [this] at h9
                cases h9
            · rw [p2, if_pos rfl]
              have hof : bt (bs (opF law np kn si hu) n) f = false := by
                have hx : (bt (bs (opF law np kn si hu) n) f && prv (lf nb) (2 ^ f) f) = false := p1 f hf
                have h1 : prv (lf nb) (2 ^ f) f = true := (prv_one h10 hT).mpr ⟨fun v u hv hu => by rw [(cut_t.mp hv).2, (cut_t.mp hu).2], fun v u hv hu => by rw [(cut_t.mp hv).2, (cut_t.mp hu).2]⟩
                rw [h1, Bool.and_true] at hx
                exact hx
              obtain ⟨s8, N, g, b1, b2, b3, b4, b5, b6, b7, b8, b9, b10⟩ := X_plan h10 hT hX7.2.2.2.2.2.1.2.1 hop hf hof c4 c6
              rw [hX7.1.1, b1, bdS, b2, bdS, b3, bdS]
              exact fin N g s8 b4.xe b5 b6 b7 b8 b9 b10
          · rw [Bool.not_eq_true] at c6
            have hqf : q = 1000000 := by
              apply Classical.byContradiction
              intro ne
              have hs := (hqk q (by omega)).mp (Nat.le_refl _)
              obtain ⟨v, v2, h2⟩ := (prv_f h10 hT).mp c6
              obtain ⟨a1, a2, a3, a4⟩ := alk_t.mp h2
              exact a3 (solv_prv q hs v2 v a2 a1 (fun g hg => (and_ag hop).mp a4 g (by
                apply Classical.byContradiction
                intro c
                rw [bt_hi hop (by omega)] at hg
                cases hg) hg))
            rw [c6, if_pos b0f, if_pos (z6.mpr hqf)]
            exact ⟨_, _, _, rfl, rfl, n, w, u, tl, tb, np, kn, si, hu, sp, nb, who, fac, ans, cst, lf, law, hX6, hM3, hW⟩
    · rw [Bool.not_eq_true] at c2
      rw [c2, if_pos b0f]
      rw [inR_f] at c2
      by_cases c3 : a2 < 0
      · rw [if_pos c3]
        exact ⟨_, _, _, rfl, rfl, hR⟩
      · rw [if_neg c3, if_pos (by rw [i_lt] at c3 ⊢; omega)]
        exact ⟨_, _, _, rfl, rfl, hR⟩
  · rw [Bool.not_eq_true] at c1
    rw [c1, if_pos b0f, if_pos b0f]
    exact ⟨_, _, _, rfl, rfl, hR⟩
