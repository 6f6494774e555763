/-! a law that was read is put in its place -/
theorem cp4 (s : ow_S) {A B C D i : Nat} {a b c d : Int32} (h1 : A < B) (h2 : B < C) (h3 : C < D) (p : Nat) : (ow_setI (ow_setI (ow_setI (ow_setI s A i a) B i b) C i c) D i d).1 A p = (if p = i then a else s.1 A p) ∧ (ow_setI (ow_setI (ow_setI (ow_setI s A i a) B i b) C i c) D i d).1 B p = (if p = i then b else s.1 B p) ∧ (ow_setI (ow_setI (ow_setI (ow_setI s A i a) B i b) C i c) D i d).1 C p = (if p = i then c else s.1 C p) ∧ (ow_setI (ow_setI (ow_setI (ow_setI s A i a) B i b) C i c) D i d).1 D p = (if p = i then d else s.1 D p) := by
  refine ⟨?_, ?_, ?_, ?_⟩
  · rw [gIn _ (by omega), gIn _ (by omega), gIn _ (by omega), gIs]
  · rw [gIn _ (by omega), gIn _ (by omega), gIs]
    by_cases e : p = i
    · rw [if_pos e, if_pos e]
    · rw [if_neg e, if_neg e, gIn _ (by omega)]
  · rw [gIn _ (by omega), gIs]
    by_cases e : p = i
    · rw [if_pos e, if_pos e]
    · rw [if_neg e, if_neg e, gIn _ (by omega), gIn _ (by omega)]
  · rw [gIs]
    by_cases e : p = i
    · rw [if_pos e, if_pos e]
    · rw [if_neg e, if_neg e, gIn _ (by omega), gIn _ (by omega), gIn _ (by omega)]
theorem if_lt {p i : Nat} {a b v : Int32} (h : p < i + 1) (h1 : p = i → a = v) (h2 : p < i → b = v) : (if p = i then a else b) = v := by
  by_cases e : p = i
  · rw [if_pos e]; exact h1 e
  · rw [if_neg e]; exact h2 (by omega)
theorem M_cp1 {K : ow_S → Option (Int32 × ow_S)} {P : Option (Int32 × ow_S) → Prop} {σ : ow_S} {m fuel : Nat} (h27 : σ.1 0 27 = nI m) (hm : m ≤ 14) (hf : m < fuel) (hK : ∀ s, (∀ c, c < 6 ∨ 9 < c → s.1 c = σ.1 c) → (∀ p, p < m → s.1 6 p = σ.1 12 p ∧ s.1 7 p = σ.1 13 p ∧ s.1 8 p = σ.1 14 p ∧ s.1 9 p = σ.1 15 p) → P (K s)) : P (fX10_law_l142 K fuel (nI 0) σ) := by
  refine lp (F := fX10_law_l142 K) (Inv := fun i s => (∀ c, c < 6 ∨ 9 < c → s.1 c = σ.1 c) ∧ ∀ p, p < i → s.1 6 p = σ.1 12 p ∧ s.1 7 p = σ.1 13 p ∧ s.1 8 p = σ.1 14 p ∧ s.1 9 p = σ.1 15 p) (Q := P) m ?_ ?_ m 0 fuel σ (by omega) hf ⟨fun _ _ => rfl, fun p hp => by omega⟩
  · intro k i s hi ⟨h1, h2⟩
    have hin : ow_in (nI i) 14 = true := ow_in_nI (show i < 14 by omega) (by decide)
    have hs : s.1 0 27 = nI m := by rw [h1 0 (by decide)]; exact h27
    refine Or.inr ⟨ow_setI (ow_setI (ow_setI (ow_setI s 6 i (s.1 12 i)) 7 i (s.1 13 i)) 8 i (s.1 14 i)) 9 i (s.1 15 i), ?_, fun c hc => ?_, fun p hp => ?_⟩
    · rw [fX10_law_l142, hs, if_neg (nI_ge hi (by omega))]
      simp only [hin, if_true, ow_lt, nI_clamp (show i < 2 ^ 31 by omega), nI_1]
      rw [gIn _ (show 13 ≠ 6 by decide), gIn _ (show 14 ≠ 7 by decide), gIn _ (show 14 ≠ 6 by decide), gIn _ (show 15 ≠ 8 by decide), gIn _ (show 15 ≠ 7 by decide), gIn _ (show 15 ≠ 6 by decide)]
    · rw [gIc _ _ _ _ _ (by omega), gIc _ _ _ _ _ (by omega), gIc _ _ _ _ _ (by omega), gIc _ _ _ _ _ (by omega)]
      exact h1 c hc
    · obtain ⟨q1, q2, q3, q4⟩ := cp4 s (A := 6) (B := 7) (C := 8) (D := 9) (i := i) (a := s.1 12 i) (b := s.1 13 i) (c := s.1 14 i) (d := s.1 15 i) (by decide) (by decide) (by decide) p
      rw [q1, q2, q3, q4, h1 12 (by decide), h1 13 (by decide), h1 14 (by decide), h1 15 (by decide)]
      exact ⟨if_lt hp (fun e => by rw [e]) (fun e => (h2 p e).1), if_lt hp (fun e => by rw [e]) (fun e => (h2 p e).2.1), if_lt hp (fun e => by rw [e]) (fun e => (h2 p e).2.2.1), if_lt hp (fun e => by rw [e]) (fun e => (h2 p e).2.2.2)⟩
  · intro k s ⟨h1, h2⟩
    have hs : s.1 0 27 = nI m := by rw [h1 0 (by decide)]; exact h27
    rw [fX10_law_l142, hs, if_pos (nI_le (Nat.le_refl m) (by omega))]
    exact hK s h1 h2
theorem M_cp2 {σ : ow_S} {m fuel : Nat} (h28 : σ.1 0 28 = nI m) (hm : m ≤ 200) (hf : m < fuel) : ∃ s, fX10_law_l206 fuel (nI 0) σ = ow_bd (fX10_startsAnew s) (fun _ s31 => some ((s31.1 0 11), s31)) ∧ (∀ c, c ≠ 0 → c ≠ 10 → c ≠ 11 → s.1 c = σ.1 c) ∧ (∀ k, k ≠ 11 → s.1 0 k = σ.1 0 k) ∧ s.1 0 11 = σ.1 0 27 ∧ ∀ p, p < m → s.1 10 p = σ.1 16 p ∧ s.1 11 p = σ.1 17 p := by
  refine lp (F := fX10_law_l206) (Inv := fun i s => (∀ c, c ≠ 10 → c ≠ 11 → s.1 c = σ.1 c) ∧ ∀ p, p < i → s.1 10 p = σ.1 16 p ∧ s.1 11 p = σ.1 17 p) (Q := fun r => ∃ s, r = ow_bd (fX10_startsAnew s) (fun _ s31 => some ((s31.1 0 11), s31)) ∧ (∀ c, c ≠ 0 → c ≠ 10 → c ≠ 11 → s.1 c = σ.1 c) ∧ (∀ k, k ≠ 11 → s.1 0 k = σ.1 0 k) ∧ s.1 0 11 = σ.1 0 27 ∧ ∀ p, p < m → s.1 10 p = σ.1 16 p ∧ s.1 11 p = σ.1 17 p) m ?_ ?_ m 0 fuel σ (by omega) hf ⟨fun _ _ _ => rfl, fun p hp => by omega⟩
  · intro k i s hi ⟨h1, h2⟩
    have hin : ow_in (nI i) 200 = true := ow_in_nI (show i < 200 by omega) (by decide)
    have hs : s.1 0 28 = nI m := by rw [h1 0 (by decide) (by decide)]; exact h28
    refine Or.inr ⟨ow_setI (ow_setI s 10 i (s.1 16 i)) 11 i (s.1 17 i), ?_, fun c h3 h4 => ?_, fun p hp => ?_⟩
    · rw [fX10_law_l206, hs, if_neg (nI_ge hi (by omega))]
      simp only [hin, if_true, ow_lt, nI_clamp (show i < 2 ^ 31 by omega), nI_1]
      rw [gIn _ (show 17 ≠ 10 by decide)]
    · rw [gIc _ _ _ _ _ h4, gIc _ _ _ _ _ h3]
      exact h1 c h3 h4
    · refine ⟨?_, ?_⟩
      · rw [gIn _ (by decide), gIs, h1 16 (by decide) (by decide)]
        exact if_lt hp (fun e => by rw [e]) (fun e => (h2 p e).1)
      · rw [gIs, gIn _ (by decide), h1 17 (by decide) (by decide)]
        exact if_lt hp (fun e => by rw [e]) (fun e => (h2 p e).2)
  · intro k s ⟨h1, h2⟩
    have hs : s.1 0 28 = nI m := by rw [h1 0 (by decide) (by decide)]; exact h28
    refine ⟨ow_setI s 0 11 (s.1 0 27), ?_, fun c h0 h3 h4 => ?_, fun k hk => ?_, ?_, fun p hp => ?_⟩
    · rw [fX10_law_l206, hs, if_pos (nI_le (Nat.le_refl m) (by omega)), ltE]
    · rw [gIc _ _ _ _ _ h0]; exact h1 c h3 h4
    · rw [c0 _ _ _ _ hk, h1 0 (by decide) (by decide)]
    · rw [c0s, h1 0 (by decide) (by decide)]
    · rw [gIn _ (by decide), gIn _ (by decide)]
      exact h2 p hp
theorem M_put {σ : ow_S} {cls : List aC} {c : Nat} (hC : MCl σ cls c) (h28 : σ.1 0 28 = nI c) (hc : c ≤ 200) (hl : cls.length ≤ 14) : ∃ s, fX10_law_l142 (fun (s29 : ow_S) => fX10_law_l206 ow_FU 0 s29) ow_FU 0 σ = ow_bd (fX10_startsAnew s) (fun _ s31 => some ((s31.1 0 11), s31)) ∧ (∀ c, c ≠ 0 → c < 6 ∨ 11 < c → s.1 c = σ.1 c) ∧ (∀ k, k ≠ 11 → s.1 0 k = σ.1 0 k) ∧ ML cls s := by
  have hFU : 202 < ow_FU := by decide
  have := M_cp1 (K := fun (s29 : ow_S) => fX10_law_l206 ow_FU 0 s29) (P := fun r => ∃ s, r = ow_bd (fX10_startsAnew s) (fun _ s31 => some ((s31.1 0 11), s31)) ∧ (∀ c, c ≠ 0 → c < 6 ∨ 11 < c → s.1 c = σ.1 c) ∧ (∀ k, k ≠ 11 → s.1 0 k = σ.1 0 k) ∧ ML cls s) (fuel := ow_FU) hC.1 hl (by omega) ?_
  · exact this
  · intro s1 h1 h2
    have e0 : s1.1 0 = σ.1 0 := h1 0 (by decide)
    obtain ⟨s2, d1, d2, d3, d4, d5⟩ := M_cp2 (σ := s1) (m := c) (fuel := ow_FU) (by rw [e0]; exact h28) hc (by omega)
    refine ⟨s2, d1, fun c h0 h => ?_, fun k hk => ?_, ?_, hl, fun k cl hk => ?_⟩
    · rw [d2 c h0 (by omega) (by omega), h1 c (by omega)]
    · rw [d3 k hk, e0]
    · rw [d4, e0]; exact hC.1
    · obtain ⟨b, m, e, x1, x2, x3, x4, x5, x6, x7, x8, x9⟩ := hC.2 k cl hk
      obtain ⟨y1, y2, y3, y4⟩ := h2 k (List.getElem?_eq_some_iff.mp hk).1
      have e16 : s1.1 16 = σ.1 16 := h1 16 (by decide)
      have e17 : s1.1 17 = σ.1 17 := h1 17 (by decide)
      have low : ∀ q, q < c → s2.1 10 q = σ.1 16 q ∧ s2.1 11 q = σ.1 17 q := fun q hq => by
        have := d5 q hq
        rw [e16, e17] at this
        exact this
      refine ⟨b, m, e, x1, x2, by omega, ?_, ?_, ?_, ?_, fun hn => sgM_cg (x8 hn) (fun q _ y => low q (by omega)), sgM_cg x9 (fun q _ y => low q (by omega))⟩
      · rw [d2 6 (by decide) (by decide) (by decide), y1]; exact x4
      · rw [d2 7 (by decide) (by decide) (by decide), y2]; exact x5
      · rw [d2 8 (by decide) (by decide) (by decide), y3]; exact x6
      · rw [d2 9 (by decide) (by decide) (by decide), y4]; exact x7
theorem X_cp2 {σ : ow_S} {fuel : Nat} (hf : 14 < fuel) : ∃ s, fX1_copy_36_17_l45 fuel (nI 0) σ = some ((), s) ∧ s.2 = σ.2 ∧ (∀ c, c < 38 → s.1 c = σ.1 c) ∧ ∀ p, p < 14 → s.1 38 p = σ.1 19 p ∧ s.1 39 p = σ.1 20 p ∧ s.1 40 p = σ.1 21 p ∧ s.1 41 p = σ.1 22 p := by
  refine lp (F := fX1_copy_36_17_l45) (Inv := fun i s => s.2 = σ.2 ∧ (∀ c, c < 38 → s.1 c = σ.1 c) ∧ ∀ p, p < i → s.1 38 p = σ.1 19 p ∧ s.1 39 p = σ.1 20 p ∧ s.1 40 p = σ.1 21 p ∧ s.1 41 p = σ.1 22 p) (Q := fun r => ∃ s, r = some ((), s) ∧ s.2 = σ.2 ∧ (∀ c, c < 38 → s.1 c = σ.1 c) ∧ ∀ p, p < 14 → s.1 38 p = σ.1 19 p ∧ s.1 39 p = σ.1 20 p ∧ s.1 40 p = σ.1 21 p ∧ s.1 41 p = σ.1 22 p) 14 ?_ ?_ 14 0 fuel σ rfl hf ⟨rfl, fun _ _ => rfl, fun p hp => by omega⟩
  · intro k i s hi ⟨h0, h1, h2⟩
    have hin : ow_in (nI i) 14 = true := ow_in_nI hi (by decide)
    refine Or.inr ⟨ow_setI (ow_setI (ow_setI (ow_setI s 38 i (s.1 19 i)) 39 i (s.1 20 i)) 40 i (s.1 21 i)) 41 i (s.1 22 i), ?_, h0, fun c hc => ?_, fun p hp => ?_⟩
    · rw [fX1_copy_36_17_l45, if_neg (show ¬ (14 : Int32) ≤ nI i from nI_ge (b := 14) hi (by decide))]
      simp only [hin, if_true, ow_lt, nI_clamp (show i < 2 ^ 31 by omega), nI_1]
      rw [gIn _ (show 20 ≠ 38 by decide), gIn _ (show 21 ≠ 39 by decide), gIn _ (show 21 ≠ 38 by decide), gIn _ (show 22 ≠ 40 by decide), gIn _ (show 22 ≠ 39 by decide), gIn _ (show 22 ≠ 38 by decide)]
    · rw [gIc _ _ _ _ _ (by omega), gIc _ _ _ _ _ (by omega), gIc _ _ _ _ _ (by omega), gIc _ _ _ _ _ (by omega)]
      exact h1 c hc
    · obtain ⟨q1, q2, q3, q4⟩ := cp4 s (A := 38) (B := 39) (C := 40) (D := 41) (i := i) (a := s.1 19 i) (b := s.1 20 i) (c := s.1 21 i) (d := s.1 22 i) (by decide) (by decide) (by decide) p
      rw [q1, q2, q3, q4, h1 19 (by decide), h1 20 (by decide), h1 21 (by decide), h1 22 (by decide)]
      exact ⟨if_lt hp (fun e => by rw [e]) (fun e => (h2 p e).1), if_lt hp (fun e => by rw [e]) (fun e => (h2 p e).2.1), if_lt hp (fun e => by rw [e]) (fun e => (h2 p e).2.2.1), if_lt hp (fun e => by rw [e]) (fun e => (h2 p e).2.2.2)⟩
  · intro k s ⟨h0, h1, h2⟩
    rw [fX1_copy_36_17_l45, if_pos (show (14 : Int32) ≤ nI 14 from nI_le (Nat.le_refl 14) (by decide))]
    exact ⟨s, rfl, h0, h1, h2⟩
theorem X_cp1 {K : ow_S → Option (Unit × ow_S)} {P : Option (Unit × ow_S) → Prop} {σ : ow_S} {fuel : Nat} (hf : 200 < fuel) (hK : ∀ s, s.2 = σ.2 → (∀ c, c ≠ 37 → s.1 c = σ.1 c) → (∀ p, p < 200 → s.1 37 p = σ.1 18 p) → P (K s)) : P (fX1_copy_36_17_l18 K fuel (nI 0) σ) := by
  refine lp (F := fX1_copy_36_17_l18 K) (Inv := fun i s => s.2 = σ.2 ∧ (∀ c, c ≠ 37 → s.1 c = σ.1 c) ∧ ∀ p, p < i → s.1 37 p = σ.1 18 p) (Q := P) 200 ?_ ?_ 200 0 fuel σ rfl hf ⟨rfl, fun _ _ => rfl, fun p hp => by omega⟩
  · intro k i s hi ⟨h0, h1, h2⟩
    have hin : ow_in (nI i) 200 = true := ow_in_nI hi (by decide)
    refine Or.inr ⟨ow_setI s 37 i (s.1 18 i), ?_, h0, fun c hc => ?_, fun p hp => ?_⟩
    · rw [fX1_copy_36_17_l18, if_neg (show ¬ (200 : Int32) ≤ nI i from nI_ge (b := 200) hi (by decide))]
      simp only [hin, if_true, ow_lt, nI_clamp (show i < 2 ^ 31 by omega), nI_1]
    · rw [gIc _ _ _ _ _ hc]; exact h1 c hc
    · rw [gIs, h1 18 (by decide)]
      exact if_lt hp (fun e => by rw [e]) (fun e => h2 p e)
  · intro k s ⟨h0, h1, h2⟩
    rw [fX1_copy_36_17_l18, if_pos (show (200 : Int32) ≤ nI 200 from nI_le (Nat.le_refl 200) (by decide))]
    exact hK s h0 h1 h2
theorem X_put {σ : ow_S} {cls : List aC} {c : Nat} (hC : XCl σ cls c) (h5 : σ.1 17 5 = nI c) (hc : c ≤ 200) (hl : cls.length ≤ 14) : ∃ s, fX1_copy_36_17 σ = some ((), s) ∧ s.2 = σ.2 ∧ (∀ c, c < 36 → s.1 c = σ.1 c) ∧ XL cls s := by
  have hFU : 202 < ow_FU := by decide
  rw [fX1_copy_36_17, ltE, ltE, gIn _ (by decide), z0]
  refine X_cp1 (P := fun r => ∃ s, r = some ((), s) ∧ s.2 = σ.2 ∧ (∀ c, c < 36 → s.1 c = σ.1 c) ∧ XL cls s) (by omega) ?_
  intro s1 h0 h1 h2
  obtain ⟨s2, d1, d2, d3, d4⟩ := X_cp2 (σ := s1) (fuel := ow_FU) (by omega)
  have lowc : ∀ c, c < 36 → s1.1 c = σ.1 c := fun c hc => by
    rw [h1 c (by omega), gIc _ _ _ _ _ (by omega), gIc _ _ _ _ _ (by omega)]
  refine ⟨s2, d1, ?_, fun c hc => ?_, ?_, hl, c, hc, ?_, fun k cl hk => ?_⟩
  · rw [d2, h0]; rfl
  · rw [d3 c (by omega), lowc c hc]
  · rw [d3 36 (by decide), h1 36 (by decide), gIs, if_pos rfl]; exact hC.1
  · rw [d3 36 (by decide), h1 36 (by decide), gIs, if_neg (by decide), gIs, if_pos rfl]; exact h5
  · obtain ⟨b, m, e, x1, x2, x3, x4, x5, x6, x7, x8, x9⟩ := hC.2 k cl hk
    have hk2 := (List.getElem?_eq_some_iff.mp hk).1
    obtain ⟨y1, y2, y3, y4⟩ := d4 k (by omega)
    have low : ∀ q, q < c → s2.1 37 q = σ.1 18 q := fun q hq => by
      rw [d3 37 (by decide), h2 q (by omega), gIn _ (by decide), gIn _ (by decide)]
    refine ⟨b, m, e, x1, x2, x3, ?_, ?_, ?_, ?_, fun hn => x8 hn _ (fun q _ y => low q (by omega)), x9 _ (fun q _ y => low q (by omega))⟩
    · rw [y1, lowc 19 (by decide)]; exact x4
    · rw [y2, lowc 20 (by decide)]; exact x5
    · rw [y3, lowc 21 (by decide)]; exact x6
    · rw [y4, lowc 22 (by decide)]; exact x7
