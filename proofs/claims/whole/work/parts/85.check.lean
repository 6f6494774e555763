/-! check -/
def numT (tb : Nat → Nat) (k : Nat) : Nat → Int32
  | 0 => 0
  | i + 1 => (numT tb k i <<< (8 &&& 31)) ||| nI (tb (4 * k + i))
def bkN (who : Nat → Nat) (fac ans : Nat → Int32) (k : Nat) : Int32 := if k % 3 = 0 then nI (who (k / 3)) else if k % 3 = 1 then fac (k / 3) else ans (k / 3)
theorem X_byteAt {tl : Nat} {tb : Nat → Nat} {s : ow_S} (h : XT tl tb s) (h2 : tl ≤ 220) {i : Nat} (hi : i < tl) : fX7_byteAt (nI i) s = some (nI (tb i), s) := by
  rw [fX7_byteAt, ltE, ltE, if_neg (nI_pos (by omega)), h.1, if_neg (nI_ge hi (by omega)), if_pos (ow_in_nI (show i < 220 by omega) (by decide)), nI_clamp (by omega), h.2 i (by omega)]
theorem and255N {b : Nat} (h : b < 256) : nI b &&& 255 = nI b := by
  rw [pk_andN (m := 255) (by omega) 8 rfl, Nat.mod_eq_of_lt (show b < 2 ^ 8 from h)]
theorem X_num {tl : Nat} {tb : Nat → Nat} {s : ow_S} (h : XT tl tb s) (h2 : WT tl tb) {k : Nat} (hk : 4 * k + 4 ≤ tl) : fX7_numberAt (nI k) s = some (numT tb k 4, s) := by
  have hf : 4 < ow_FU := by decide
  have h22 := h2.1
  rw [fX7_numberAt]
  show fX7_numberAt_l4 (nI k) ow_FU 0 (nI 0) s = _
  refine lp (β := Int32 × ow_S) (F := fun m i b => fX7_numberAt_l4 (nI k) m b.1 i b.2) (Inv := fun i b => b = (numT tb k i, s)) (Q := fun r => r = some (numT tb k 4, s)) 4 ?_ ?_ 4 0 ow_FU (0, s) rfl hf rfl
  · intro m i b hi h1
    subst h1
    refine Or.inr ⟨(numT tb k (i + 1), s), ?_, rfl⟩
    show fX7_numberAt_l4 (nI k) (m + 1) (numT tb k i) (nI i) s = fX7_numberAt_l4 (nI k) m (numT tb k (i + 1)) (nI (i + 1)) s
    rw [fX7_numberAt_l4, if_neg (show ¬ (4 : Int32) ≤ nI i from nI_ge (b := 4) hi (by decide)), show (4 : Int32) = nI 4 from rfl, pk_mul, nI_add, X_byteAt h h22 (show 4 * k + i < tl by omega), bdS, and255N (h2.2 _), ltE, ltE, nI_1, numT]
  · intro m b h1
    subst h1
    show fX7_numberAt_l4 (nI k) (m + 1) (numT tb k 4) (nI 4) s = _
    rw [fX7_numberAt_l4, if_pos (show (4 : Int32) ≤ nI 4 by decide)]
theorem M_num {tl : Nat} {tb : Nat → Nat} {s : ow_S} (h : MT tl tb s) {k : Nat} (hk : 4 * k + 4 ≤ 220) : fX10_numberAt (nI k) s = some (numT tb k 4, s) := by
  have hf : 4 < ow_FU := by decide
  rw [fX10_numberAt]
  show fX10_numberAt_l4 (nI k) ow_FU 0 (nI 0) s = _
  refine lp (β := Int32 × ow_S) (F := fun m i b => fX10_numberAt_l4 (nI k) m b.1 i b.2) (Inv := fun i b => b = (numT tb k i, s)) (Q := fun r => r = some (numT tb k 4, s)) 4 ?_ ?_ 4 0 ow_FU (0, s) rfl hf rfl
  · intro m i b hi h1
    subst h1
    refine Or.inr ⟨(numT tb k (i + 1), s), ?_, rfl⟩
    show fX10_numberAt_l4 (nI k) (m + 1) (numT tb k i) (nI i) s = fX10_numberAt_l4 (nI k) m (numT tb k (i + 1)) (nI (i + 1)) s
    rw [fX10_numberAt_l4, if_neg (show ¬ (4 : Int32) ≤ nI i from nI_ge (b := 4) hi (by decide)), show (4 : Int32) = nI 4 from rfl, pk_mul, nI_add, if_pos (ow_in_nI (show 4 * k + i < 220 by omega) (by decide)), nI_clamp (by omega), h.2 _ (show 4 * k + i < 220 by omega), ltE, ltE, nI_1, numT]
  · intro m b h1
    subst h1
    show fX10_numberAt_l4 (nI k) (m + 1) (numT tb k 4) (nI 4) s = _
    rw [fX10_numberAt_l4, if_pos (show (4 : Int32) ≤ nI 4 by decide)]
/-- the first place where tape and book differ, by what then -/
def ckP (tb who : Nat → Nat) (fac ans : Nat → Int32) (k : Nat) : Bool := decide (numT tb k 4 ≠ bkN who fac ans k)
def ckR (tb who : Nat → Nat) (fac ans : Nat → Int32) (a nb : Nat) : Int32 :=
  match (List.range (3 * min a nb)).find? (ckP tb who fac ans) with
  | some i => nI i
  | none => if a = nb then -1 else nI (3 * min a nb)
theorem ckR_at {tb who : Nat → Nat} {fac ans : Nat → Int32} {a nb i : Nat} (hi : i < 3 * min a nb) (h1 : ckP tb who fac ans i = true) (h2 : ∀ q, q < i → ckP tb who fac ans q = false) : ckR tb who fac ans a nb = nI i := by
  unfold ckR
  rw [fd_at hi h1 h2]
theorem ckR_no {tb who : Nat → Nat} {fac ans : Nat → Int32} {a nb : Nat} (h2 : ∀ q, q < 3 * min a nb → ckP tb who fac ans q = false) : ckR tb who fac ans a nb = if a = nb then -1 else nI (3 * min a nb) := by
  unfold ckR
  have : (List.range (3 * min a nb)).find? (ckP tb who fac ans) = none := by
    rw [List.find?_eq_none]
    intro x hx
    rw [h2 x (List.mem_range.mp hx)]
    decide
  rw [this]
theorem X_firstWrong {tl nb : Nat} {tb who : Nat → Nat} {fac ans cst : Nat → Int32} {σ : ow_S} (hT : XT tl tb σ) (hWT : WT tl tb) (hB : XB nb who fac ans cst σ) (h40 : nb ≤ 40) {a : Nat} (ha : 12 * a ≤ tl) : fX9_firstWrong (nI (3 * a)) σ = some (ckR tb who fac ans a nb, σ) := by
  have h22 := hWT.1
  have hf : 120 < ow_FU := by decide
  have em : (if nI (3 * nb) < nI (3 * a) then nI (3 * nb) else nI (3 * a)) = nI (3 * min a nb) := by
    rw [nmin (by omega) (by omega)]
    congr 1
    by_cases h : 3 * nb < 3 * a
    · rw [if_pos h]; omega
    · rw [if_neg h]; omega
  rw [fX9_firstWrong, fX0_size, bdS, hB.1, ltE, show (3 : Int32) = nI 3 from rfl, pk_mul, em, ltE]
  have hmin1 : min a nb ≤ a := Nat.min_le_left _ _
  have hmin2 : min a nb ≤ nb := Nat.min_le_right _ _
  have hmin3 : min a nb = a ∨ min a nb = nb := by omega
  generalize hK : (fun (s10 : ow_S) => ow_lt (fun (v12 : Int32) (s11 : ow_S) => some (v12, s11)) (fun j65 => if nI (3 * a) = nI (3 * nb) then (j65 (-1) s10) else (j65 (nI (3 * min a nb)) s10))) = K
  show fX9_firstWrong_l19 K (nI (3 * min a nb)) ow_FU (nI 0) σ = _
  refine lp (F := fX9_firstWrong_l19 K (nI (3 * min a nb))) (Inv := fun i s => s = σ ∧ ∀ q, q < i → ckP tb who fac ans q = false) (Q := fun r => r = some (ckR tb who fac ans a nb, σ)) (3 * min a nb) ?_ ?_ (3 * min a nb) 0 ow_FU σ (Nat.zero_add _) (by omega) ⟨rfl, fun q hq => absurd hq (by omega)⟩
  · intro m i s hi ⟨h1, h2⟩
    subst h1
    have eb : s.1 9 i = bkN who fac ans i := by
      have hr := hB.2 (i / 3) (by omega)
      unfold bkN
      rcases (show i % 3 = 0 ∨ i % 3 = 1 ∨ i % 3 = 2 by omega) with h | h | h
      · rw [if_pos h, ← hr.1, show 3 * (i / 3) = i by omega]
      · rw [if_neg (by omega), if_pos h, ← hr.2.1, show 3 * (i / 3) + 1 = i by omega]
      · rw [if_neg (by omega), if_neg (by omega), ← hr.2.2.1, show 3 * (i / 3) + 2 = i by omega]
    rw [fX9_firstWrong_l19, if_neg (nI_ge hi (by omega)), X_num hT hWT (show 4 * i + 4 ≤ tl by omega), bdS, X_numAt hB.1 h40 (show i < 3 * nb by omega), bdS, eb]
    by_cases c : numT tb i 4 = bkN who fac ans i
    · rw [if_pos c, ltE, nI_1]
      refine Or.inr ⟨s, rfl, rfl, fun q hq => ?_⟩
      by_cases e : q = i
      · subst e
        unfold ckP
        rw [decide_eq_false (fun h => h c)]
      · exact h2 q (by omega)
    · rw [if_neg c]
      refine Or.inl ?_
      rw [ckR_at hi (decide_eq_true c) h2]
  · intro m s ⟨h1, h2⟩
    subst h1
    rw [fX9_firstWrong_l19, if_pos (nI_le (Nat.le_refl _) (by omega)), ← hK]
    dsimp only
    rw [ltE, ckR_no h2]
    by_cases c : a = nb
    · rw [if_pos c, if_pos (by rw [c])]
    · rw [if_neg c, if_neg (ne_small (by omega) (by omega) (by omega))]
theorem M_checkl {tl nb : Nat} {tb who : Nat → Nat} {fac ans cst : Nat → Int32} {σ : ow_S} (hT : MT tl tb σ) (hB : MB nb who fac ans cst σ) (h40 : nb ≤ 40) {a : Nat} (ha : 12 * a ≤ 220) {fuel : Nat} (hf : 40 < fuel) : fX10_check_l25 (fun  (s10 : ow_S) => ow_lt (fun (v12 : Int32) (s11 : ow_S) => some (v12, s11)) (fun j134 => if nI a = (s10.1 0 6) then (j134 (-1) s10) else (j134 (3 * (s10.1 0 6)) s10))) (nI a) fuel (nI 0) σ = some (ckR tb who fac ans a nb, σ) := by
  generalize hK : (fun (s10 : ow_S) => ow_lt (fun (v12 : Int32) (s11 : ow_S) => some (v12, s11)) (fun j134 => if nI a = (s10.1 0 6) then (j134 (-1) s10) else (j134 (3 * (s10.1 0 6)) s10))) = K
  refine lp (F := fX10_check_l25 K (nI a)) (Inv := fun i s => s = σ ∧ i ≤ a ∧ ∀ q, q < 3 * i → ckP tb who fac ans q = false) (Q := fun r => r = some (ckR tb who fac ans a nb, σ)) nb ?_ ?_ nb 0 fuel σ (Nat.zero_add _) (by omega) ⟨rfl, Nat.zero_le _, fun q hq => absurd hq (by omega)⟩
  · intro m i s hi ⟨h1, h3, h2⟩
    subst h1
    obtain ⟨r1, r2, r3, -⟩ := hB.2 i hi
    rw [fX10_check_l25, hB.1, if_neg (nI_ge hi (by omega))]
    by_cases c : i = a
    · rw [if_pos (by rw [c])]
      refine Or.inl ?_
      have hm : min a nb = a := by omega
      rw [ckR_no (by rw [hm, ← c]; exact h2), if_neg (by omega), hm, show (3 : Int32) = nI 3 from rfl, pk_mul]
    · have hin : ow_in (nI i) 40 = true := ow_in_nI (show i < 40 by omega) (by decide)
      have b0 : bkN who fac ans (3 * i) = nI (who i) := by
        unfold bkN
        rw [if_pos (by omega), show 3 * i / 3 = i by omega]
      have b1 : bkN who fac ans (3 * i + 1) = fac i := by
        unfold bkN
        rw [if_neg (by omega), if_pos (by omega), show (3 * i + 1) / 3 = i by omega]
      have b2 : bkN who fac ans (3 * i + 2) = ans i := by
        unfold bkN
        rw [if_neg (by omega), if_neg (by omega), show (3 * i + 2) / 3 = i by omega]
      rw [if_neg (ne_small (by omega) (by omega) c), show (3 : Int32) = nI 3 from rfl, show (1 : Int32) = nI 1 from rfl, show (2 : Int32) = nI 2 from rfl, pk_mul, nI_add, nI_add, M_num hT (show 4 * (3 * i) + 4 ≤ 220 by omega), bdS, if_pos hin, nI_clamp (by omega), r1]
      by_cases c0 : numT tb (3 * i) 4 = nI (who i)
      · have p0 : ckP tb who fac ans (3 * i) = false := by
          unfold ckP
          rw [b0, decide_eq_false (fun h => h c0)]
        have h20 : ∀ q, q < 3 * i + 1 → ckP tb who fac ans q = false := fun q hq => by
          by_cases e : q = 3 * i
          · rw [e]; exact p0
          · exact h2 q (by omega)
        rw [if_pos c0, M_num hT (show 4 * (3 * i + 1) + 4 ≤ 220 by omega), bdS, if_pos hin, r2]
        by_cases c1 : numT tb (3 * i + 1) 4 = fac i
        · have p1 : ckP tb who fac ans (3 * i + 1) = false := by
            unfold ckP
            rw [b1, decide_eq_false (fun h => h c1)]
          have h21 : ∀ q, q < 3 * i + 2 → ckP tb who fac ans q = false := fun q hq => by
            by_cases e : q = 3 * i + 1
            · rw [e]; exact p1
            · exact h20 q (by omega)
          rw [if_pos c1, M_num hT (show 4 * (3 * i + 2) + 4 ≤ 220 by omega), bdS, if_pos hin, r3]
          by_cases c2 : numT tb (3 * i + 2) 4 = ans i
          · have p2 : ckP tb who fac ans (3 * i + 2) = false := by
              unfold ckP
              rw [b2, decide_eq_false (fun h => h c2)]
            rw [if_pos c2, ltE, nI_add]
            refine Or.inr ⟨s, rfl, rfl, by omega, fun q hq => ?_⟩
            by_cases e : q = 3 * i + 2
            · rw [e]; exact p2
            · exact h21 q (by omega)
          · rw [if_neg c2]
            refine Or.inl ?_
            rw [ckR_at (i := 3 * i + 2) (by omega) (by unfold ckP; rw [b2]; exact decide_eq_true c2) h21]
        · rw [if_neg c1]
          refine Or.inl ?_
          rw [ckR_at (i := 3 * i + 1) (by omega) (by unfold ckP; rw [b1]; exact decide_eq_true c1) h20]
      · rw [if_neg c0]
        refine Or.inl ?_
        rw [ckR_at (i := 3 * i) (by omega) (by unfold ckP; rw [b0]; exact decide_eq_true c0) h2]
  · intro m s ⟨h1, h3, h2⟩
    subst h1
    have hm : min a nb = nb := by omega
    rw [fX10_check_l25, hB.1, if_pos (nI_le (Nat.le_refl _) (by omega)), ← hK]
    dsimp only
    rw [ltE, hB.1, ckR_no (by rw [hm]; exact h2), hm]
    by_cases c : a = nb
    · rw [if_pos c, if_pos (by rw [c])]
    · rw [if_neg c, if_neg (ne_small (by omega) (by omega) c), show (3 : Int32) = nI 3 from rfl, pk_mul]
theorem XT.z {tl : Nat} {tb : Nat → Nat} {s : ow_S} (h : XT tl tb s) : XT 0 tb (ow_setI s 1 1 0) := ⟨by rw [gIs, if_pos rfl]; rfl, fun i hi => by rw [gIn _ (by decide)]; exact h.2 i hi⟩
theorem MT.z {tl : Nat} {tb : Nat → Nat} {s : ow_S} (h : MT tl tb s) : MT 0 tb (ow_setI s 0 1 0) := ⟨by rw [gIs, if_pos rfl]; rfl, fun i hi => by rw [gIn _ (by decide)]; exact h.2 i hi⟩
theorem xtq_z {s : ow_S} {v : Int32} : xtq s (ow_setI s 1 1 v) := ⟨rfl, fun c h1 _ => gIc _ _ _ _ _ h1⟩
theorem mtq_z {s : ow_S} {v : Int32} : mtq s (ow_setI s 0 1 v) := ⟨fun k hk => c0 _ _ _ _ hk, fun c h1 _ => gIc _ _ _ _ _ h1⟩
theorem cl_check : si_check ow_R := by
  intro σx σm a1 ⟨n, w, u, tl, tb, np, kn, si, hu, sp, nb, who, fac, ans, cst, lf, law, hX, hM, hW⟩
  have h40 := hW.2.2.1
  have h22 := hW.2.1.1
  have hFU : 40 < ow_FU := by decide
  have hR : ow_R σx σm := ⟨n, w, u, tl, tb, np, kn, si, hu, sp, nb, who, fac, ans, cst, lf, law, hX, hM, hW⟩
  rw [fX9_check, fX10_check, ltE, ltE]
  rcases x_or a1 with c | ⟨a, ha, rfl⟩
  · rw [if_pos c, if_pos c]
    exact ⟨_, _, _, rfl, rfl, hR⟩
  · rw [if_neg (nI_pos ha), if_neg (nI_pos ha), fX7_size, bdS, if_pos (show ((12 : Int32) != 0) = true by decide), if_pos (show ((12 : Int32) != 0) = true by decide), hX.2.1.1, hM.2.1.1, show (12 : Int32) = nI 12 from rfl, pk_div (by omega) (by decide) (by decide)]
    by_cases c : a ≤ tl / 12
    · rw [if_pos (nI_le c (by omega)), if_pos (nI_le c (by omega)), show (3 : Int32) = nI 3 from rfl, pk_mul, X_firstWrong hX.2.1 hW.2.1 hX.2.2.2.2.1 h40 (show 12 * a ≤ tl by omega), bdS, fX7_clear, ltE, bdS, ltE]
      have hM2 : RM n w u 0 tb np kn si hu sp nb who fac ans cst lf law (ow_setI σm 0 1 0) := hM.tt mtq_z hM.2.1.z
      have hl := M_checkl hM2.2.1 hM2.2.2.2.2.1 h40 (show 12 * a ≤ 220 by omega) hFU
      exact ⟨_, _, _, rfl, hl, n, w, u, 0, tb, np, kn, si, hu, sp, nb, who, fac, ans, cst, lf, law, hX.tt xtq_z hX.2.1.z, hM2, hW.1, ⟨by omega, hW.2.1.2⟩, hW.2.2⟩
    · rw [if_neg (nI_ge (by omega) (by omega)), if_neg (nI_ge (by omega) (by omega))]
      exact ⟨_, _, _, rfl, rfl, hR⟩
