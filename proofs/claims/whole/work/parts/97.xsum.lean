/-! the class reads a sum -/
def cxN (tb : Nat → Nat) (n i : Nat) : Nat := if i < n then tb i else 256
def nx (tb : Nat → Nat) (n i : Nat) : Int32 := if i < n then nI (tb i) else -1
theorem cx_lt {tb : Nat → Nat} {n i c : Nat} (h : cxN tb n i = c) (hc : c < 256) : i < n := by
  apply Classical.byContradiction
  intro g
  unfold cxN at h
  rw [if_neg g] at h
  omega
theorem nx_eq {tb : Nat → Nat} {n i L : Nat} {l : Int32} (hb : ∀ i, tb i < 256) (hl : l = nI L) (h : L < 256) : (nx tb n i = l) ↔ cxN tb n i = L := by
  subst hl
  unfold nx cxN
  by_cases c : i < n
  · rw [if_pos c, if_pos c]
    exact nI_eq (by have := hb i; omega) (by omega)
  · rw [if_neg c, if_neg c]
    exact ⟨fun e => absurd e.symm (ni_m1 (by omega)), fun e => by omega⟩
abbrev XV (tb : Nat → Nat) (n : Nat) (σ : ow_S) (i c : Nat) : Prop := σ.1 15 3 = nI i ∧ σ.1 15 2 = nI n ∧ σ.1 15 4 = 0 ∧ (∀ k, k < n → σ.1 16 k = nI (tb k)) ∧ σ.1 17 5 = nI c
abbrev xq (σ σ' : ow_S) : Prop := σ'.2 = σ.2 ∧ (∀ c, c ≠ 15 → c ≠ 17 → c ≠ 18 → σ'.1 c = σ.1 c) ∧ σ'.1 15 2 = σ.1 15 2 ∧ ∀ k, k ≠ 5 → σ'.1 17 k = σ.1 17 k
abbrev DV (σ : ow_S) (F : Int32) : Prop := σ.1 15 4 = F ∧ F ≠ 0 ∧ ∃ c, c ≤ 200 ∧ σ.1 17 5 = nI c
theorem xq_rf {σ : ow_S} : xq σ σ := ⟨rfl, fun _ _ _ _ => rfl, rfl, fun _ _ => rfl⟩
theorem xq_tr {a b c : ow_S} (h1 : xq a b) (h2 : xq b c) : xq a c := ⟨h2.1.trans h1.1, fun i x y z => (h2.2.1 i x y z).trans (h1.2.1 i x y z), h2.2.2.1.trans h1.2.2.1, fun k hk => (h2.2.2.2 k hk).trans (h1.2.2.2 k hk)⟩
theorem xq_15 {σ : ow_S} {k : Nat} {v : Int32} (hk : k ≠ 2) : xq σ (ow_setI σ 15 k v) := ⟨rfl, fun c h1 _ _ => gIc _ _ _ _ _ h1, by rw [gIs, if_neg (Ne.symm hk)], fun j _ => by rw [gIn _ (by decide)]⟩
theorem xq_add {σ : ow_S} {k : Nat} {v w : Int32} : xq σ (ow_setI (ow_setI σ 18 k v) 17 5 w) := ⟨rfl, fun c _ h2 h3 => by rw [gIc _ _ _ _ _ h2, gIc _ _ _ _ _ h3], by rw [gIn _ (by decide), gIn _ (by decide)], fun j hj => by rw [gIs, if_neg hj, gIn _ (by decide)]⟩
theorem X_next {tb : Nat → Nat} {n i c : Nat} {σ : ow_S} (h : XV tb n σ i c) (hn : n ≤ 200) (hi : i ≤ n) : fX6_next σ = some (nx tb n i, σ) := by
  obtain ⟨h1, h2, -, h4, -⟩ := h
  unfold fX6_next nx
  simp only [ow_lt, h1, h2]
  rw [if_neg (nI_pos (by omega))]
  by_cases c : i < n
  · rw [if_neg (nI_ge c (by omega)), if_neg (show ¬ (200 : Int32) ≤ nI i from nI_ge (b := 200) (by omega) (by decide)), if_pos (ow_in_nI (show i < 200 by omega) (by decide)), nI_clamp (by omega), h4 i c, if_pos c]
  · rw [if_pos (nI_le (by omega) (by omega)), if_neg c]
theorem X_nextT (σ : ow_S) : ∃ r, fX6_next σ = some (r, σ) := by
  unfold fX6_next
  simp only [ow_lt]
  by_cases c1 : σ.1 15 3 < 0
  · rw [if_pos c1]; exact ⟨_, rfl⟩
  · rw [if_neg c1]
    by_cases c2 : σ.1 15 2 ≤ σ.1 15 3
    · rw [if_pos c2]; exact ⟨_, rfl⟩
    · rw [if_neg c2]
      by_cases c3 : 200 ≤ σ.1 15 3
      · rw [if_pos c3]; exact ⟨_, rfl⟩
      · obtain ⟨k, hk, e⟩ := nI_of c1
        rw [if_neg c3]
        rw [e] at c3 ⊢
        have : k < 200 := by
          apply Classical.byContradiction
          intro g
          exact c3 (nI_le (a := 200) (by omega) hk)
        rw [if_pos (ow_in_nI this (by decide))]
        exact ⟨_, rfl⟩
theorem X_isDg {tb : Nat → Nat} {n i : Nat} (hb : ∀ i, tb i < 256) (σ : ow_S) : fX6_isDigit (nx tb n i) σ = some (bi (decide (isDg (cxN tb n i))), σ) := by
  unfold fX6_isDigit nx cxN
  simp only [ow_lt]
  by_cases c : i < n
  · rw [if_pos c, if_pos c]
    have := hb i
    by_cases c1 : tb i < 48
    · rw [if_pos (show nI (tb i) < 48 from nI_lt (b := 48) c1 (by decide)), decide_eq_false (show ¬ isDg (tb i) from fun h => by have := h.1; omega)]; rfl
    · rw [if_neg (show ¬ nI (tb i) < 48 from nI_nlt (b := 48) (by omega) (by omega))]
      by_cases c2 : 57 < tb i
      · rw [if_pos (show 57 < nI (tb i) from nI_lt (a := 57) c2 (by omega)), decide_eq_false (show ¬ isDg (tb i) from fun h => by have := h.2; omega)]; rfl
      · rw [if_neg (show ¬ 57 < nI (tb i) from nI_nlt (a := 57) (by omega) (by decide)), decide_eq_true (show isDg (tb i) from ⟨by omega, by omega⟩)]; rfl
  · rw [if_neg c, if_neg c, if_pos (show (-1 : Int32) < 48 by decide)]
    rfl
theorem X_isDgT (r : Int32) (σ : ow_S) : ∃ b : Bool, fX6_isDigit r σ = some (bi b, σ) := by
  unfold fX6_isDigit
  simp only [ow_lt]
  by_cases c1 : r < 48
  · rw [if_pos c1]; exact ⟨false, rfl⟩
  · rw [if_neg c1]
    by_cases c2 : 57 < r
    · rw [if_pos c2]; exact ⟨false, rfl⟩
    · rw [if_neg c2]; exact ⟨true, rfl⟩
theorem X_fail {tb : Nat → Nat} {n i c k : Nat} {σ : ow_S} (h : XV tb n σ i c) : fX6_fail (nI k) σ = some ((), ow_setI σ 15 4 (flt k i)) := by
  unfold fX6_fail
  simp only [ow_lt, h.2.2.1, if_true, h.1]
  rfl
theorem X_failed {tb : Nat → Nat} {n i c k : Nat} {σ : ow_S} (h : XV tb n σ i c) (h1 : 1 ≤ k) (h5 : k ≤ 5) (hi : i ≤ 200) (hc : c ≤ 200) : DV (ow_setI σ 15 4 (flt k i)) (flt k i) := ⟨by rw [gIs, if_pos rfl], flt_ne h1 h5 hi, c, hc, by rw [gIn _ (by decide)]; exact h.2.2.2.2⟩
theorem X_failD {x F : Int32} {σ : ow_S} (h : DV σ F) : fX6_fail x σ = some ((), σ) := by
  unfold fX6_fail
  simp only [ow_lt]
  rw [if_neg (by rw [h.1]; exact h.2.1)]
theorem X_go {tb : Nat → Nat} {n i c : Nat} {σ : ow_S} (h : XV tb n σ i c) (j : Nat) : XV tb n (ow_setI σ 15 3 (nI j)) j c := by
  obtain ⟨h1, h2, h3, h4, h5⟩ := h
  exact ⟨by rw [gIs, if_pos rfl], by rw [gIs, if_neg (by decide)]; exact h2, by rw [gIs, if_neg (by decide)]; exact h3, fun k hk => by rw [gIn _ (by decide)]; exact h4 k hk, by rw [gIn _ (by decide)]; exact h5⟩
theorem X_tak {tb : Nat → Nat} {n i c L : Nat} {σ : ow_S} (hb : ∀ i, tb i < 256) (h : XV tb n σ i c) (hn : n ≤ 200) (hi : i ≤ n) (hL : L < 256) : fX6_take (nI L) σ = some ((), if cxN tb n i = L then ow_setI σ 15 3 (nI (i + 1)) else ow_setI σ 15 4 (flt 1 i)) := by
  unfold fX6_take
  rw [X_next h hn hi, bdS]
  simp only [ow_lt, h.1, nI_1]
  by_cases c : cxN tb n i = L
  · rw [if_pos c, if_pos ((nx_eq hb rfl hL).mpr c)]
  · rw [if_neg c, if_neg (fun e => c ((nx_eq hb rfl hL).mp e)), show (1 : Int32) = nI 1 from rfl, X_fail h, bdS]
theorem X_takeD {x F : Int32} {σ : ow_S} (h : DV σ F) : ∃ σ', fX6_take x σ = some ((), σ') ∧ xq σ σ' ∧ DV σ' F := by
  obtain ⟨r, hr⟩ := X_nextT σ
  unfold fX6_take
  rw [hr, bdS]
  simp only [ow_lt]
  by_cases c : r = x
  · rw [if_pos c]
    refine ⟨_, rfl, xq_15 (by decide), ?_⟩
    obtain ⟨h1, h2, k, h3, h4⟩ := h
    exact ⟨by rw [gIs, if_neg (by decide)]; exact h1, h2, k, h3, by rw [gIn _ (by decide)]; exact h4⟩
  · rw [if_neg c, X_failD h, bdS]
    exact ⟨_, rfl, xq_rf, h⟩
theorem X_add {c : Nat} {x0 x1 : Int32} {σ : ow_S} (h : σ.1 17 5 = nI c) (hc : c < 200) : fX1_add_17 x0 x1 σ = some ((), ow_setI (ow_setI σ 18 c ((x1 <<< (4 &&& 31)) ||| x0)) 17 5 (nI (c + 1))) := by
  unfold fX1_add_17
  simp only [ow_lt, h]
  rw [if_neg (show ¬ (200 : Int32) ≤ nI c from nI_ge (b := 200) hc (by decide)), if_pos (ow_in_nI hc (by decide)), nI_clamp (by omega), gIn _ (by decide), h, nI_1]
theorem X_addV {tb : Nat → Nat} {n i c : Nat} {σ : ow_S} {v : Int32} (h : XV tb n σ i c) : XV tb n (ow_setI (ow_setI σ 18 c v) 17 5 (nI (c + 1))) i (c + 1) := by
  obtain ⟨h1, h2, h3, h4, h5⟩ := h
  exact ⟨by rw [gIn _ (by decide), gIn _ (by decide)]; exact h1, by rw [gIn _ (by decide), gIn _ (by decide)]; exact h2, by rw [gIn _ (by decide), gIn _ (by decide)]; exact h3, fun k hk => by rw [gIn _ (by decide), gIn _ (by decide)]; exact h4 k hk, by rw [gIs, if_pos rfl]⟩
theorem X_addS (σ : ow_S) (c k : Nat) (v w : Int32) : (ow_setI (ow_setI σ 18 c v) 17 5 w).1 18 k = if k = c then v else σ.1 18 k := by rw [gIn _ (by decide), gIs]
theorem X_addD {x0 x1 F : Int32} {σ : ow_S} (h : DV σ F) : ∃ σ', fX1_add_17 x0 x1 σ = some ((), σ') ∧ xq σ σ' ∧ DV σ' F := by
  obtain ⟨h1, h2, c, h3, h4⟩ := h
  by_cases hc : c < 200
  · refine ⟨_, X_add h4 hc, xq_add, by rw [gIn _ (by decide), gIn _ (by decide)]; exact h1, h2, c + 1, by omega, by rw [gIs, if_pos rfl]⟩
  · have e : c = 200 := by omega
    subst e
    refine ⟨σ, ?_, xq_rf, h1, h2, 200, h3, h4⟩
    unfold fX1_add_17
    simp only [ow_lt, h4]
    rw [if_pos (show (200 : Int32) ≤ nI 200 by decide)]
theorem ab_tab : (List.range 256).all (fun c => (List.range 19).any (fun k => ow_ab k == (Int32.toInt8 (nI c)).toInt32) == decide (isLt c)) = true := by decide +kernel
theorem X_letter {c : Nat} (hc : c < 256) (σ : ow_S) : ∃ r, fJ0_indexOf_0f7a4 ((Int32.toUInt32 (nI c) % 65536).toInt32) σ = some (r, σ) ∧ (r < 0 ↔ ¬ isLt c) := by
  have e1 : (Int32.toUInt32 (nI c) % 65536).toInt32 = nI c := by
    rw [pk_char, pk_tn (by omega), Nat.mod_eq_of_lt (by omega)]
  have loop : fJ1_indexOfChar_4cfef_l7 19 ((Int32.toInt8 (nI c)).toInt32) ow_FU (nI 0) σ = some (fi (fun k => ow_ab k == (Int32.toInt8 (nI c)).toInt32) 19, σ) := by
    refine lp (F := fJ1_indexOfChar_4cfef_l7 19 ((Int32.toInt8 (nI c)).toInt32)) (Inv := fun i s => s = σ ∧ ∀ q, q < i → (ow_ab q == (Int32.toInt8 (nI c)).toInt32) = false) (Q := fun r => r = some (fi (fun k => ow_ab k == (Int32.toInt8 (nI c)).toInt32) 19, σ)) 19 ?_ ?_ 19 0 ow_FU σ rfl (by decide) ⟨rfl, fun q hq => absurd hq (by omega)⟩
    · intro m i s hi ⟨e, h2⟩
      subst e
      rw [fJ1_indexOfChar_4cfef_l7, if_neg (show ¬ (19 : Int32) ≤ nI i from nI_ge (b := 19) hi (by decide)), if_pos (ow_in_nI hi (by decide)), nI_clamp (by omega)]
      by_cases g : ow_ab i = (Int32.toInt8 (nI c)).toInt32
      · rw [if_pos g, fi_at hi (by rw [g]; exact beq_self_eq_true _) h2]
        exact Or.inl rfl
      · rw [if_neg g, ltE, nI_1]
        refine Or.inr ⟨s, rfl, rfl, fun q hq => ?_⟩
        by_cases e : q = i
        · rw [e]; exact beq_eq_false_iff_ne.mpr g
        · exact h2 q (by omega)
    · intro m s ⟨e, h2⟩
      subst e
      rw [fJ1_indexOfChar_4cfef_l7, if_pos (show (19 : Int32) ≤ nI 19 by decide), fi_no h2]
  refine ⟨fi (fun k => ow_ab k == (Int32.toInt8 (nI c)).toInt32) 19, ?_, ?_⟩
  · rw [e1, fJ0_indexOf_0f7a4, fJ0_indexOf_7cf53]
    have l1 : fJ0_isLatin1_aae02 σ = some (1, σ) := rfl
    have l2c : fJ0_coder_7d493 σ = some (0, σ) := rfl
    have l2 : fJ0_length_8abf5 σ = some (19, σ) := by rw [fJ0_length_8abf5, l2c, bdS, show (19 : Int32) >>> ((0 : Int32) &&& 31) = 19 by decide]
    have l3 : fJ1_canEncode_9a6ad (nI c) σ = some (1, σ) := by
      unfold fJ1_canEncode_9a6ad
      simp only [ow_lt]
      rw [if_neg (nI_pos (by omega)), if_neg (show ¬ 255 < nI c from nI_nlt (a := 255) (by omega) (by decide)), if_pos is01_1]
    rw [l1, bdS, ltE, if_neg (by decide), l2, bdS, fJ1_indexOf_4cfef, l3, bdS, if_neg (by decide), ltE, ltE, if_neg (show ¬ (0 : Int32) < 0 by decide), if_neg (show ¬ (19 : Int32) < 19 by decide), if_pos (show (0 : Int32) < 19 by decide), fJ1_indexOfChar_4cfef, ltE, z0, loop, bdS, bdS, bdS]
  · have t := eq_of_beq (List.all_eq_true.mp ab_tab c (List.mem_range.mpr hc))
    rcases fi_or (fun k => ow_ab k == (Int32.toInt8 (nI c)).toInt32) 19 with ⟨i, hi, p1, p2, p3⟩ | ⟨p1, p2⟩
    · rw [p3]
      have : (List.range 19).any (fun k => ow_ab k == (Int32.toInt8 (nI c)).toInt32) = true := ex_t.mpr ⟨i, hi, p1⟩
      rw [this] at t
      have := of_decide_eq_true t.symm
      exact ⟨fun h => absurd h (nI_pos (by omega)), fun h => absurd this h⟩
    · rw [p2]
      have : (List.range 19).any (fun k => ow_ab k == (Int32.toInt8 (nI c)).toInt32) = false := ex_f.mpr p1
      rw [this] at t
      exact ⟨fun _ => of_decide_eq_false t.symm, fun _ => by decide⟩
/-- what a reading of the class comes to -/
abbrev XF (σ : ow_S) (F : Int32) (o : Option (Unit × ow_S)) : Prop := ∃ σ', o = some ((), σ') ∧ xq σ σ' ∧ DV σ' F
abbrev XK (tb : Nat → Nat) (n : Nat) (SG : (Nat → Int32) → Nat → Nat → Nat → aV → Prop) (σ : ow_S) (i0 c0 D j : Nat) (V : aV) (o : Option (Unit × ow_S)) : Prop := ∃ σ' c', o = some ((), σ') ∧ xq σ σ' ∧ XV tb n σ' j c' ∧ j ≤ n ∧ c0 ≤ c' ∧ c' + i0 ≤ c0 + j ∧ (∀ k, k < c0 → σ'.1 18 k = σ.1 18 k) ∧ SG (σ'.1 18) c0 c' D V
def XO (tb : Nat → Nat) (n : Nat) (SG : (Nat → Int32) → Nat → Nat → Nat → aV → Prop) (σ : ow_S) (i0 c0 D : Nat) (r : pR) (o : Option (Unit × ow_S)) : Prop := match r with
  | .inl F => XF σ F o
  | .inr (j, V) => i0 < j ∧ XK tb n SG σ i0 c0 D j V o
def XI (tb : Nat → Nat) (n : Nat) (SG : (Nat → Int32) → Nat → Nat → Nat → aV → Prop) (G : Int32 → ow_S → Option (Unit × ow_S)) (d : Nat) (p : Nat → pR) (D : Nat) : Prop := ∀ i c σ, XV tb n σ i c → i ≤ n → c ≤ i → XO tb n SG σ i c D (p i) (G (nI d) σ)
theorem dgs_lt {cx : Nat → Nat} : ∀ (r v i : Nat), (dgs cx r v i).1 < (v + 1) * 10 ^ r
  | 0, v, i => by show v < (v + 1) * 1; omega
  | r + 1, v, i => by
    show (if isDg (cx i) then dgs cx r (10 * v + (cx i - 48)) (i + 1) else (v, i)).1 < _
    by_cases c : isDg (cx i)
    · rw [if_pos c]
      have := dgs_lt (cx := cx) r (10 * v + (cx i - 48)) (i + 1)
      refine Nat.lt_of_lt_of_le this ?_
      rw [Nat.pow_succ, Nat.mul_comm (10 ^ r) 10, ← Nat.mul_assoc]
      have := c.2
      exact Nat.mul_le_mul_right _ (by omega)
    · rw [if_neg c]
      show v < (v + 1) * 10 ^ (r + 1)
      have : 1 ≤ 10 ^ (r + 1) := Nat.pow_pos (by decide)
      have : (v + 1) * 1 ≤ (v + 1) * 10 ^ (r + 1) := Nat.mul_le_mul_left _ this
      omega
theorem dgs_pos {tb : Nat → Nat} {n : Nat} : ∀ (r v i : Nat), i ≤ n → i ≤ (dgs (cxN tb n) r v i).2 ∧ (dgs (cxN tb n) r v i).2 ≤ n
  | 0, v, i, hi => ⟨Nat.le_refl _, hi⟩
  | r + 1, v, i, hi => by
    show i ≤ (if isDg (cxN tb n i) then dgs (cxN tb n) r (10 * v + (cxN tb n i - 48)) (i + 1) else (v, i)).2 ∧ (if isDg (cxN tb n i) then dgs (cxN tb n) r (10 * v + (cxN tb n i - 48)) (i + 1) else (v, i)).2 ≤ n
    by_cases c : isDg (cxN tb n i)
    · rw [if_pos c]
      have hlt : i < n := cx_lt (tb := tb) rfl (by have := c.2; omega)
      have := dgs_pos (tb := tb) (n := n) r (10 * v + (cxN tb n i - 48)) (i + 1) (by omega)
      exact ⟨by omega, this.2⟩
    · rw [if_neg c]; exact ⟨Nat.le_refl _, hi⟩
theorem X_numl {tb : Nat → Nat} {n c : Nat} (hb : ∀ i, tb i < 256) (hn : n ≤ 200) {K : Int32 → ow_S → Option (Unit × ow_S)} : ∀ (r v i k : Nat) (σ : ow_S) (fuel : Nat), XV tb n σ i c → i ≤ n → k + r = 5 → r < fuel → ∃ σ', fX6_readNumber_l4 K fuel (nI v) (nI k) σ = K (nI (dgs (cxN tb n) r v i).1) σ' ∧ XV tb n σ' (dgs (cxN tb n) r v i).2 c ∧ xq σ σ' ∧ σ'.1 18 = σ.1 18
  | 0, v, i, k, σ, fuel, h, hi, hk, hf => by
    obtain ⟨fuel, rfl⟩ : ∃ z, fuel = z + 1 := ⟨fuel - 1, by omega⟩
    refine ⟨σ, ?_, h, xq_rf, rfl⟩
    rw [fX6_readNumber_l4, if_pos (show (5 : Int32) ≤ nI k from nI_le (a := 5) (by omega) (by omega))]
    rfl
  | r + 1, v, i, k, σ, fuel, h, hi, hk, hf => by
    obtain ⟨fuel, rfl⟩ : ∃ z, fuel = z + 1 := ⟨fuel - 1, by omega⟩
    rw [fX6_readNumber_l4, if_neg (show ¬ (5 : Int32) ≤ nI k from nI_ge (b := 5) (by omega) (by decide)), X_next h hn hi, bdS, X_isDg hb, bdS]
    have hd : dgs (cxN tb n) (r + 1) v i = if isDg (cxN tb n i) then dgs (cxN tb n) r (10 * v + (cxN tb n i - 48)) (i + 1) else (v, i) := rfl
    rw [hd]
    by_cases c1 : isDg (cxN tb n i)
    · have hlt : i < n := cx_lt (tb := tb) rfl (by have := c1.2; omega)
      have hcx : cxN tb n i = tb i := by unfold cxN; rw [if_pos hlt]
      have hnx : nx tb n i = nI (tb i) := by unfold nx; rw [if_pos hlt]
      rw [decide_eq_true c1, if_neg b1t, if_pos c1, X_next h hn hi, bdS, ltE, hnx, hcx]
      have e : (10 * nI v + nI (tb i)) - 48 = nI (10 * v + (tb i - 48)) := by
        have := c1.1
        rw [show (10 : Int32) = nI 10 from rfl, pk_mul, nI_add, show (48 : Int32) = nI 48 from rfl, pk_sub (by rw [hcx] at this; omega)]
        congr 1
        rw [hcx] at this
        omega
      rw [e, ltE, ltE, h.1, nI_1, nI_1]
      obtain ⟨σ', g1, g2, g3, g4⟩ := X_numl hb hn (K := K) r (10 * v + (tb i - 48)) (i + 1) (k + 1) (ow_setI σ 15 3 (nI (i + 1))) fuel (X_go h (i + 1)) (by omega) (by omega) (by omega)
      exact ⟨σ', g1, g2, xq_tr (xq_15 (by decide)) g3, by rw [g4, gIc _ _ _ _ _ (by decide)]⟩
    · rw [decide_eq_false c1, if_pos b0f, if_neg c1]
      exact ⟨σ, rfl, h, xq_rf, rfl⟩
theorem X_number {tb : Nat → Nat} {n i c D : Nat} {σ : ow_S} (hb : ∀ i, tb i < 256) (hn : n ≤ 200) (h : XV tb n σ i c) (hi : i ≤ n) (hc : c ≤ i) (hD : 1 ≤ D) (hd : isDg (cxN tb n i)) : XO tb n SE σ i c D (if isDg (cxN tb n (dgs (cxN tb n) 5 0 i).2) then .inl (flt 2 (dgs (cxN tb n) 5 0 i).2) else .inr ((dgs (cxN tb n) 5 0 i).2, fun _ => some (nI (dgs (cxN tb n) 5 0 i).1))) (fX6_readNumber σ) := by
  have hlt : i < n := cx_lt (tb := tb) rfl (by have := hd.2; omega)
  have hge : i + 1 ≤ (dgs (cxN tb n) 5 0 i).2 := by
    show i + 1 ≤ (if isDg (cxN tb n i) then dgs (cxN tb n) 4 (10 * 0 + (cxN tb n i - 48)) (i + 1) else (0, i)).2
    rw [if_pos hd]
    exact (dgs_pos 4 _ (i + 1) (by omega)).1
  have hle := (dgs_pos (tb := tb) (n := n) 5 0 i hi).2
  have hv := dgs_lt (cx := cxN tb n) 5 0 i
  rw [fX6_readNumber]
  show XO tb n SE σ i c D _ (fX6_readNumber_l4 _ ow_FU (nI 0) (nI 0) σ)
  obtain ⟨s1, g1, g2, g3, g4⟩ := X_numl hb hn (K := fun (v11 : Int32) (s10 : ow_S) => ow_bd (fX6_next s10) (fun r13 s12 => ow_bd (fX6_isDigit r13 s12) (fun r15 s14 => ow_lt (fun  (s16 : ow_S) => ow_bd (fX1_add_17 0 v11 s16) (fun _ s17 => some ((), s17))) (fun j63 => if r15 = 0 then (j63  s14) else (ow_bd (fX6_fail 2 s14) (fun _ s18 => j63  s18)))))) 5 0 i 0 σ ow_FU h hi rfl (by decide)
  rw [g1, X_next g2 hn hle, bdS, X_isDg hb, bdS, ltE]
  by_cases c1 : isDg (cxN tb n (dgs (cxN tb n) 5 0 i).2)
  · rw [if_pos c1, decide_eq_true c1, if_neg b1t, show (2 : Int32) = nI 2 from rfl, X_fail g2, bdS]
    have d1 := X_failed (k := 2) g2 (by decide) (by decide) (by omega) (by omega)
    obtain ⟨s2, a1, a2, a3⟩ := X_addD (x0 := 0) (x1 := nI (dgs (cxN tb n) 5 0 i).1) d1
    dsimp only
    rw [a1, bdS]
    exact ⟨s2, rfl, xq_tr g3 (xq_tr (xq_15 (by decide)) a2), a3⟩
  · rw [if_neg c1, decide_eq_false c1, if_pos b0f]
    dsimp only
    rw [X_add g2.2.2.2.2 (by omega), bdS]
    refine ⟨by omega, _, c + 1, rfl, xq_tr g3 xq_add, X_addV g2, hle, by omega, by omega, fun k hk => ?_, SE.le (SE_num (by omega) ?_) hD⟩
    · rw [X_addS, if_neg (by omega), g4]
    · rw [X_addS, if_pos rfl]
      exact st_mk (by omega) (by decide)
theorem X_factor {tb : Nat → Nat} {n d D D' : Nat} (hb : ∀ i, tb i < 256) (hn : n ≤ 200) {cs : Int32 → ow_S → Option (Unit × ow_S)} (hd : d ≤ 6) {sub : Option (Nat → pR)} (h1 : sub = none → d = 6) (h2 : ∀ p, sub = some p → d < 6 ∧ XI tb n SE cs (d + 1) p D') (hD : 1 ≤ D) (hD' : D' ≤ D) : XI tb n SE (fX6_readFactor cs) d (pFac (cxN tb n) sub) D := by
  intro i c σ h hi hc
  rw [fX6_readFactor, X_next h hn hi, bdS, ltE, if_pos h.2.2.1, if_pos (show nI d ≤ 6 from nI_le (b := 6) hd (by decide)), ltE]
  unfold pFac
  by_cases c91 : cxN tb n i = 91
  · have hlt : i < n := cx_lt c91 (by decide)
    rw [if_pos c91, if_pos ((nx_eq (L := 91) (l := 91) hb rfl (by decide)).mpr c91), fX6_takeOpening]
    cases hs : sub with
    | none =>
      have e6 := h1 hs
      subst e6
      rw [if_neg (show ¬ nI 6 < 6 by decide), show (5 : Int32) = nI 5 from rfl, X_fail h, bdS, if_pos is01_0, bdS, if_pos rfl]
      exact ⟨_, rfl, xq_15 (by decide), X_failed h (by decide) (by decide) (by omega) (by omega)⟩
    | some p =>
      obtain ⟨hd6, hp⟩ := h2 p hs
      rw [if_pos (show nI d < 6 from nI_lt (b := 6) hd6 (by decide)), ltE, if_pos is01_1, bdS, if_neg (by decide), h.1, nI_1, nI_1]
      have hI := hp (i + 1) c _ (X_go h (i + 1)) (by omega) (by omega)
      show XO tb n SE σ i c D (pB (p (i + 1)) (fun j V => if cxN tb n j = 93 then .inr (j + 1, V) else .inl (flt 1 j))) _
      cases hr : p (i + 1) with
      | inl F =>
        rw [hr] at hI
        show XO tb n SE σ i c D (.inl F) _
        obtain ⟨s2, a1, a2, a3⟩ := hI
        obtain ⟨s3, b1, b2, b3⟩ := X_takeD (x := 93) a3
        rw [a1, bdS, b1, bdS]
        exact ⟨s3, rfl, xq_tr (xq_15 (by decide)) (xq_tr a2 b2), b3⟩
      | inr r =>
        obtain ⟨j, V⟩ := r
        rw [hr] at hI
        obtain ⟨hij, s2, c', a1, a2, a3, a4, a5, a6, a7, a8⟩ := hI
        rw [a1, bdS, show (93 : Int32) = nI 93 from rfl, X_tak hb a3 hn a4 (by decide), bdS]
        show XO tb n SE σ i c D (if cxN tb n j = 93 then .inr (j + 1, V) else .inl (flt 1 j)) _
        by_cases c93 : cxN tb n j = 93
        · have hlt2 : j < n := cx_lt c93 (by decide)
          rw [if_pos c93, if_pos c93]
          exact ⟨by omega, _, c', rfl, xq_tr (xq_15 (by decide)) (xq_tr a2 (xq_15 (by decide))), X_go a3 (j + 1), by omega, a5, by omega, fun k hk => by rw [gIn _ (by decide), a7 k hk, gIn _ (by decide)], by rw [gIc _ _ _ _ _ (by decide)]; exact a8.le hD'⟩
        · rw [if_neg c93, if_neg c93]
          exact ⟨_, rfl, xq_tr (xq_15 (by decide)) (xq_tr a2 (xq_15 (by decide))), X_failed a3 (by decide) (by decide) (by omega) (by omega)⟩
  · rw [if_neg c91, if_neg (show ¬ nx tb n i = 91 from fun e => c91 ((nx_eq (L := 91) hb rfl (by decide)).mp e)), X_isDg hb, bdS]
    by_cases cd : isDg (cxN tb n i)
    · rw [if_pos cd, decide_eq_true cd, if_neg b1t]
      have hN := X_number (D := D) hb hn h hi hc hD cd
      have he : (ow_bd (fX6_readNumber σ) fun _ s13 => (fun (s4 : ow_S) => some ((), s4)) s13) = fX6_readNumber σ := by
        cases fX6_readNumber σ with
        | none => rfl
        | some x => rfl
      rw [he]
      exact hN
    · rw [if_neg cd, decide_eq_false cd, if_pos b0f, ltE]
      by_cases hlt : i < n
      · have hcx : cxN tb n i = tb i := by unfold cxN; rw [if_pos hlt]
        have hnx : nx tb n i = nI (tb i) := by unfold nx; rw [if_pos hlt]
        have hbi := hb i
        obtain ⟨r, hr1, hr2⟩ := X_letter hbi σ
        rw [hcx, hnx]
        by_cases c0 : tb i = 0
        · rw [c0, if_neg (by decide), if_pos (show nI 0 ≤ 0 by decide), show (1 : Int32) = nI 1 from rfl]
          dsimp only
          rw [X_fail h, bdS]
          exact ⟨_, rfl, xq_15 (by decide), X_failed h (by decide) (by decide) (by omega) (by omega)⟩
        · rw [if_neg (nI_nle (by omega) (by omega)), hr1, bdS]
          by_cases cl : isLt (tb i)
          · have hl : 97 ≤ tb i ∧ tb i ≤ 122 := by
              rcases cl with h | h | h | h | h <;> omega
            rw [if_neg (fun e => hr2.mp e cl), if_pos cl, ltE, h.1, nI_1, show (97 : Int32) = nI 97 from rfl, pk_sub hl.1, X_add (X_go h (i + 1)).2.2.2.2 (by omega), bdS]
            refine ⟨by omega, _, c + 1, rfl, xq_tr (xq_15 (by decide)) xq_add, X_addV (X_go h (i + 1)), by omega, by omega, by omega, fun k hk => ?_, SE.le (SE_let (by omega) ?_) hD⟩
            · rw [X_addS, if_neg (by omega), gIn _ (by decide)]
            · rw [X_addS, if_pos rfl]
              exact st_mk (by omega) (by decide)
          · rw [if_pos (hr2.mpr cl), if_neg cl, show (1 : Int32) = nI 1 from rfl]
            dsimp only
            rw [X_fail h, bdS]
            exact ⟨_, rfl, xq_15 (by decide), X_failed h (by decide) (by decide) (by omega) (by omega)⟩
      · have hcx : cxN tb n i = 256 := by unfold cxN; rw [if_neg hlt]
        have hnx : nx tb n i = -1 := by unfold nx; rw [if_neg hlt]
        rw [hcx, hnx, if_neg (by decide), if_pos (show (-1 : Int32) ≤ 0 by decide), show (1 : Int32) = nI 1 from rfl]
        dsimp only
        rw [X_fail h, bdS]
        exact ⟨_, rfl, xq_15 (by decide), X_failed h (by decide) (by decide) (by omega) (by omega)⟩
theorem X_factorD {cs : Int32 → ow_S → Option (Unit × ow_S)} {x F : Int32} {σ : ow_S} (h : DV σ F) : fX6_readFactor cs x σ = some ((), σ) := by
  obtain ⟨r, hr⟩ := X_nextT σ
  rw [fX6_readFactor, hr, bdS, ltE, if_neg (by rw [h.1]; exact h.2.1)]
