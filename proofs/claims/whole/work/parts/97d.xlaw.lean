/-! the class reads pieces, clauses, a law -/
theorem X_cmp1 {tb : Nat → Nat} {n i c : Nat} {σ : ow_S} (hb : ∀ i, tb i < 256) (hn : n ≤ 200) (h : XV tb n σ i c) (hi : i ≤ n) (hs : isSg (cxN tb n i)) : fX6_readComparing σ = some (nI (ded (cxN tb n i)), ow_setI σ 15 3 (nI (i + 1))) := by
  have e60 := nx_eq (tb := tb) (n := n) (i := i) (L := 60) (l := 60) hb rfl (by decide)
  have e62 := nx_eq (tb := tb) (n := n) (i := i) (L := 62) (l := 62) hb rfl (by decide)
  have e61 := nx_eq (tb := tb) (n := n) (i := i) (L := 61) (l := 61) hb rfl (by decide)
  rw [fX6_readComparing, X_next h hn hi, bdS]
  simp only [ow_lt, h.2.2.1, if_true, h.1, nI_1]
  rcases hs with hc | hc | hc
  · rw [if_pos (e60.mpr hc), if_pos (e60.mpr hc), hc]; rfl
  · rw [if_neg (fun e => by have := e60.mp e; omega), if_pos (e62.mpr hc), if_neg (fun e => by have := e60.mp e; omega), if_pos (e62.mpr hc), hc]; rfl
  · rw [if_neg (fun e => by have := e60.mp e; omega), if_neg (fun e => by have := e62.mp e; omega), if_pos (e61.mpr hc), if_neg (fun e => by have := e60.mp e; omega), if_neg (fun e => by have := e62.mp e; omega), hc]; rfl
theorem X_cmp0 {tb : Nat → Nat} {n i c : Nat} {σ : ow_S} (hb : ∀ i, tb i < 256) (hn : n ≤ 200) (h : XV tb n σ i c) (hi : i ≤ n) (hs : ¬ isSg (cxN tb n i)) : ∃ v, fX6_readComparing σ = some (v, ow_setI σ 15 4 (flt 1 i)) := by
  have e60 := nx_eq (tb := tb) (n := n) (i := i) (L := 60) (l := 60) hb rfl (by decide)
  have e62 := nx_eq (tb := tb) (n := n) (i := i) (L := 62) (l := 62) hb rfl (by decide)
  have e61 := nx_eq (tb := tb) (n := n) (i := i) (L := 61) (l := 61) hb rfl (by decide)
  refine ⟨9, ?_⟩
  have f1 := X_fail (k := 1) h
  have f1' : fX6_fail 1 σ = some ((), ow_setI σ 15 4 (flt 1 i)) := f1
  rw [fX6_readComparing, X_next h hn hi, bdS, ltE, ltE, if_neg (fun e => hs (Or.inl (e60.mp e))), if_neg (fun e => hs (Or.inr (Or.inl (e62.mp e)))), if_neg (fun e => hs (Or.inr (Or.inr (e61.mp e)))), f1', bdS]
  dsimp only
  rw [ltE, if_neg (fun e => hs (Or.inl (e60.mp e))), if_neg (fun e => hs (Or.inr (Or.inl (e62.mp e))))]
theorem X_cmpD {F : Int32} {σ : ow_S} (h : DV σ F) : ∃ v, fX6_readComparing σ = some (v, σ) := by
  obtain ⟨r, hr⟩ := X_nextT σ
  have hf : fX6_fail 1 σ = some ((), σ) := X_failD h
  have h0 : ¬ σ.1 15 4 = 0 := by rw [h.1]; exact h.2.1
  rw [fX6_readComparing, hr, bdS]
  simp only [ow_lt, if_neg h0, hf, ow_bd, Option.bind_some]
  by_cases c1 : r = 60
  · rw [if_pos c1, if_pos c1]; exact ⟨_, rfl⟩
  · rw [if_neg c1, if_neg c1]
    by_cases c2 : r = 62
    · rw [if_pos c2, if_pos c2]; exact ⟨_, rfl⟩
    · rw [if_neg c2, if_neg c2]
      split <;> exact ⟨_, rfl⟩
theorem X_piece {tb : Nat → Nat} {n d D DS : Nat} (hb : ∀ i, tb i < 256) (hn : n ≤ 200) {cc cpi cs : Int32 → ow_S → Option (Unit × ow_S)} (hd : d ≤ 6) {Sm : Nat → pR} {sub : Option (Nat → pR)} (hS : XI tb n SE cs d Sm DS) (hSD : ∀ σ F, DV σ F → cs (nI d) σ = some ((), σ)) (h1 : sub = none → d = 6) (h2 : ∀ p, sub = some p → d < 6 ∧ XI tb n SC cpi (d + 1) p D ∧ XI tb n SC cc (d + 1) (pCho (cxN tb n) p) D) (hD : DS + 1 ≤ D) : XI tb n SC (fX6_readPiece cc cpi cs) d (pPie (cxN tb n) Sm sub) D := by
  intro i c σ h hi hc
  have e33 := nx_eq (tb := tb) (n := n) (i := i) (L := 33) (l := 33) hb rfl (by decide)
  have e40 := nx_eq (tb := tb) (n := n) (i := i) (L := 40) (l := 40) hb rfl (by decide)
  rw [fX6_readPiece, X_next h hn hi, bdS, ltE, if_pos h.2.2.1, if_pos (show nI d ≤ 6 from nI_le (b := 6) hd (by decide)), ltE]
  unfold pPie
  by_cases c33 : cxN tb n i = 33
  · have hlt : i < n := cx_lt c33 (by decide)
    rw [if_pos c33, if_pos (e33.mpr c33), fX6_takeOpening]
    cases hs : sub with
    | none =>
      have e6 := h1 hs
      subst e6
      rw [if_neg (show ¬ nI 6 < 6 by decide), show (5 : Int32) = nI 5 from rfl, X_fail h, bdS, if_pos is01_0, bdS, if_pos rfl]
      exact ⟨_, rfl, xq_15 (by decide), X_failed h (by decide) (by decide) (by omega) (by omega)⟩
    | some p =>
      obtain ⟨hd6, hp, -⟩ := h2 p hs
      rw [if_pos (show nI d < 6 from nI_lt (b := 6) hd6 (by decide)), ltE, if_pos is01_1, bdS, if_neg (by decide), h.1, nI_1, nI_1]
      have hI := hp (i + 1) c _ (X_go h (i + 1)) (by omega) (by omega)
      show XO tb n SC σ i c D (pB (p (i + 1)) (fun j V => .inr (j, vNot V))) _
      cases hr : p (i + 1) with
      | inl F =>
        rw [hr] at hI
        show XO tb n SC σ i c D (.inl F) _
        obtain ⟨s2, a1, a2, a3⟩ := hI
        obtain ⟨s3, b1, b2, b3⟩ := X_addD (x0 := 10) (x1 := 0) a3
        rw [a1, bdS, b1, bdS]
        exact ⟨s3, rfl, xq_tr (xq_15 (by decide)) (xq_tr a2 b2), b3⟩
      | inr r =>
        obtain ⟨j, V⟩ := r
        rw [hr] at hI
        obtain ⟨hij, s2, c', a1, a2, a3, a4, a5, a6, a7, a8⟩ := hI
        rw [a1, bdS, X_add a3.2.2.2.2 (by omega), bdS]
        refine ⟨by omega, _, c' + 1, rfl, xq_tr (xq_15 (by decide)) (xq_tr a2 xq_add), X_addV a3, a4, by omega, by omega, fun q hq => ?_, SC_not (a8.cg (fun q x y => by rw [X_addS, if_neg (by omega)])) ?_⟩
        · rw [X_addS, if_neg (by omega), a7 q hq, gIn _ (by decide)]
        · rw [X_addS, if_pos rfl]
          exact st_mk (q := 0) (by decide) (by decide)
  · rw [if_neg c33, if_neg (fun e => c33 (e33.mp e))]
    by_cases c40 : cxN tb n i = 40
    · have hlt : i < n := cx_lt c40 (by decide)
      rw [if_pos c40, if_pos (e40.mpr c40), fX6_takeOpening]
      cases hs : sub with
      | none =>
        have e6 := h1 hs
        subst e6
        rw [if_neg (show ¬ nI 6 < 6 by decide), show (5 : Int32) = nI 5 from rfl, X_fail h, bdS, if_pos is01_0, bdS, if_pos rfl]
        exact ⟨_, rfl, xq_15 (by decide), X_failed h (by decide) (by decide) (by omega) (by omega)⟩
      | some p =>
        obtain ⟨hd6, -, hp⟩ := h2 p hs
        rw [if_pos (show nI d < 6 from nI_lt (b := 6) hd6 (by decide)), ltE, if_pos is01_1, bdS, if_neg (by decide), h.1, nI_1, nI_1]
        have hI := hp (i + 1) c _ (X_go h (i + 1)) (by omega) (by omega)
        show XO tb n SC σ i c D (clP (cxN tb n) (pCho (cxN tb n) p (i + 1))) _
        unfold clP
        cases hr : pCho (cxN tb n) p (i + 1) with
        | inl F =>
          rw [hr] at hI
          show XO tb n SC σ i c D (.inl F) _
          obtain ⟨s2, a1, a2, a3⟩ := hI
          obtain ⟨s3, b1, b2, b3⟩ := X_takeD (x := 41) a3
          rw [a1, bdS, b1, bdS]
          exact ⟨s3, rfl, xq_tr (xq_15 (by decide)) (xq_tr a2 b2), b3⟩
        | inr r =>
          obtain ⟨j, V⟩ := r
          rw [hr] at hI
          obtain ⟨hij, s2, c', a1, a2, a3, a4, a5, a6, a7, a8⟩ := hI
          rw [a1, bdS, show (41 : Int32) = nI 41 from rfl, X_tak hb a3 hn a4 (by decide), bdS]
          show XO tb n SC σ i c D (if cxN tb n j = 41 then .inr (j + 1, V) else .inl (flt 1 j)) _
          by_cases c41 : cxN tb n j = 41
          · have hlt2 : j < n := cx_lt c41 (by decide)
            rw [if_pos c41, if_pos c41]
            exact ⟨by omega, _, c', rfl, xq_tr (xq_15 (by decide)) (xq_tr a2 (xq_15 (by decide))), X_go a3 (j + 1), by omega, a5, by omega, fun k hk => by rw [gIn _ (by decide), a7 k hk, gIn _ (by decide)], by rw [gIc _ _ _ _ _ (by decide)]; exact a8⟩
          · rw [if_neg c41, if_neg c41]
            exact ⟨_, rfl, xq_tr (xq_15 (by decide)) (xq_tr a2 (xq_15 (by decide))), X_failed a3 (by decide) (by decide) (by omega) (by omega)⟩
    · rw [if_neg c40, if_neg (fun e => c40 (e40.mp e))]
      have hI := hS i c σ h hi hc
      cases hr : Sm i with
      | inl F =>
        rw [hr] at hI
        show XO tb n SC σ i c D (.inl F) _
        obtain ⟨s2, a1, a2, a3⟩ := hI
        obtain ⟨v, hv⟩ := X_cmpD a3
        obtain ⟨s3, b1, b2, b3⟩ := X_addD (x0 := v) (x1 := 0) a3
        rw [a1, bdS, hv, bdS, hSD s2 F a3, bdS, b1, bdS]
        exact ⟨s3, rfl, xq_tr a2 b2, b3⟩
      | inr r =>
        obtain ⟨j, A⟩ := r
        rw [hr] at hI
        obtain ⟨hij, s2, c', a1, a2, a3, a4, a5, a6, a7, a8⟩ := hI
        show XO tb n SC σ i c D (if isSg (cxN tb n j) then pB (Sm (j + 1)) (fun k B => .inr (k, vJ (cxN tb n j) A B)) else .inl (flt 1 j)) _
        rw [a1, bdS]
        by_cases cs1 : isSg (cxN tb n j)
        · have hlt : j < n := cx_lt (tb := tb) rfl (by rcases cs1 with h | h | h <;> omega)
          rw [if_pos cs1, X_cmp1 hb hn a3 a4 cs1, bdS]
          have hI2 := hS (j + 1) c' _ (X_go a3 (j + 1)) (by omega) (by omega)
          cases hr2 : Sm (j + 1) with
          | inl F =>
            rw [hr2] at hI2
            show XO tb n SC σ i c D (.inl F) _
            obtain ⟨s3, d1, d2, d3⟩ := hI2
            obtain ⟨s4, b1, b2, b3⟩ := X_addD (x0 := nI (ded (cxN tb n j))) (x1 := 0) d3
            rw [d1, bdS, b1, bdS]
            exact ⟨s4, rfl, xq_tr a2 (xq_tr (xq_15 (by decide)) (xq_tr d2 b2)), b3⟩
          | inr r =>
            obtain ⟨k, B⟩ := r
            rw [hr2] at hI2
            obtain ⟨hjk, s3, c2, d1, d2, d3, d4, d5, d6, d7, d8⟩ := hI2
            rw [d1, bdS, X_add d3.2.2.2.2 (by omega), bdS]
            have hlow : ∀ q, q < c' → (ow_setI (ow_setI s3 18 c2 (((0 : Int32) <<< (4 &&& 31)) ||| nI (ded (cxN tb n j)))) 17 5 (nI (c2 + 1))).1 18 q = s2.1 18 q := fun q hq => by rw [X_addS, if_neg (by omega), d7 q hq, gIn _ (by decide)]
            refine ⟨by omega, _, c2 + 1, rfl, xq_tr a2 (xq_tr (xq_15 (by decide)) (xq_tr d2 xq_add)), X_addV d3, d4, by omega, by omega, fun q hq => by rw [hlow q (by omega), a7 q hq], ?_⟩
            refine SC_cmp (a8.cg (fun q x y => hlow q y)) (d8.cg (fun q x y => by rw [X_addS, if_neg (by omega)])) ?_ cs1 (by omega) hD
            rw [X_addS, if_pos rfl]
            exact st_mk (q := 0) (by decide) (ded_lt _)
        · rw [if_neg cs1]
          obtain ⟨v, hv⟩ := X_cmp0 hb hn a3 a4 cs1
          have dd := X_failed (k := 1) a3 (by decide) (by decide) (by omega) (by omega)
          obtain ⟨s4, b1, b2, b3⟩ := X_addD (x0 := v) (x1 := 0) dd
          rw [hv, bdS, hSD _ _ dd, bdS, b1, bdS]
          exact ⟨s4, rfl, xq_tr a2 (xq_tr (xq_15 (by decide)) b2), b3⟩
theorem X_pPi {tb : Nat → Nat} {n : Nat} (hb : ∀ i, tb i < 256) (hn : n ≤ 200) : ∀ (e L d : Nat), d + e = 6 → e < L → XI tb n SC (fTpiece L) d (pPi (cxN tb n) e) 20 := by
  intro e
  induction e with
  | zero =>
    intro L d hd hL
    obtain ⟨L, rfl⟩ : ∃ z, L = z + 1 := ⟨L - 1, by omega⟩
    exact X_piece (DS := 3 + 2 * 0) hb hn (by omega) (X_pE hb hn 0 9 d hd (by decide)) (fun σ F h => X_sumD h) (fun _ => by omega) (fun p hp => by cases hp) (by decide)
  | succ e ih =>
    intro L d hd hL
    obtain ⟨L, rfl⟩ : ∃ z, L = z + 1 := ⟨L - 1, by omega⟩
    have hp := ih L (d + 1) (by omega) (by omega)
    exact X_piece (sub := some (pPi (cxN tb n) e)) (DS := 3 + 2 * (e + 1)) hb hn (by omega) (X_pE hb hn (e + 1) 9 d hd (by omega)) (fun σ F h => X_sumD h) (fun h => by cases h) (fun p hq => by cases hq; exact ⟨by omega, hp, X_cho hb hn hp⟩) (by omega)
theorem X_pieceD {cc cpi cs : Int32 → ow_S → Option (Unit × ow_S)} {x F : Int32} {σ : ow_S} (h : DV σ F) : fX6_readPiece cc cpi cs x σ = some ((), σ) := by
  obtain ⟨r, hr⟩ := X_nextT σ
  rw [fX6_readPiece, hr, bdS, ltE, if_neg (by rw [h.1]; exact h.2.1)]
theorem X_choD {F : Int32} {σ : ow_S} (h : DV σ F) : ∃ σ', fTX6_readChoice 1 σ = some ((), σ') ∧ xq σ σ' ∧ DV σ' F := by
  obtain ⟨s3, b1, b2, b3⟩ := PC_D (cp := fTpiece 9) (d := 1) (fa := 99999) (fo := 99999) (idx := 0) (idx2 := 0) (jA := -1) (jO := -1) h
  refine ⟨s3, ?_, b2, b3⟩
  unfold fTX6_readChoice
  rw [fX6_readChoice, fX6_readPart]
  have : fTpiece 9 1 σ = some ((), σ) := X_pieceD h
  rw [this, bdS]
  exact b1
/-! clauses -/
abbrev qR : Type := Int32 ⊕ (Nat × aC)
def pCl (cx : Nat → Nat) (m i : Nat) : qR :=
  if cx i = 110 ∨ cx i = 114 ∨ cx i = 115 then (if m = 14 then .inl (flt 4 i) else if cx i = 110 then (match pCond cx (i + 1) with
      | .inl F => .inl F
      | .inr (k, C) => .inr (k, (nI 110, (fun _ => some 0), C)))
    else (match pE cx 6 (i + 1) with
      | .inl F => .inl F
      | .inr (j, E) => match pCond cx j with
        | .inl F => .inl F
        | .inr (k, C) => .inr (k, (nI (cx i), E, C))))
  else .inl (flt 1 i)
def pLaw (cx : Nat → Nat) (n : Nat) : Nat → List aC → Nat → Int32 ⊕ List aC
  | 0, _, _ => .inl 0
  | k + 1, cls, i => match pCl cx cls.length i with
    | .inl F => .inl F
    | .inr (j, cl) => if j < n then (if cx j = 59 then pLaw cx n k (cls ++ [cl]) (j + 1) else .inl (flt 1 j)) else .inr (cls ++ [cl])
def XCl (σ : ow_S) (cls : List aC) (c : Nat) : Prop := σ.1 17 6 = nI cls.length ∧ ∀ (k : Nat) (cl : aC), cls[k]? = some cl → ∃ b m e : Nat, b ≤ m ∧ m ≤ e ∧ e ≤ c ∧ σ.1 19 k = cl.1 ∧ σ.1 20 k = nI b ∧ σ.1 21 k = nI m ∧ σ.1 22 k = nI e ∧ (cl.1 ≠ 110 → SE (σ.1 18) b m 40 cl.2.1) ∧ SC (σ.1 18) m e 40 cl.2.2
/-- only the reader's cells have changed -/
abbrev xz (σ σ' : ow_S) : Prop := σ'.2 = σ.2 ∧ (∀ c, c < 15 → σ'.1 c = σ.1 c) ∧ (∀ c, 22 < c → σ'.1 c = σ.1 c) ∧ σ'.1 16 = σ.1 16 ∧ σ'.1 15 2 = σ.1 15 2
theorem xq_z {σ σ' : ow_S} (h : xq σ σ') : xz σ σ' := ⟨h.1, fun c hc => h.2.1 c (by omega) (by omega) (by omega), fun c hc => h.2.1 c (by omega) (by omega) (by omega), h.2.1 16 (by decide) (by decide) (by decide), h.2.2.1⟩
theorem xz_tr {a b c : ow_S} (h1 : xz a b) (h2 : xz b c) : xz a c := ⟨h2.1.trans h1.1, fun i x => (h2.2.1 i x).trans (h1.2.1 i x), fun i x => (h2.2.2.1 i x).trans (h1.2.2.1 i x), h2.2.2.2.1.trans h1.2.2.2.1, h2.2.2.2.2.trans h1.2.2.2.2⟩
theorem xz_set {σ : ow_S} {q k : Nat} {v : Int32} (h1 : 17 ≤ q) (h2 : q ≤ 22) : xz σ (ow_setI σ q k v) := ⟨rfl, fun c hc => gIc _ _ _ _ _ (by omega), fun c hc => gIc _ _ _ _ _ (by omega), gIc _ _ _ _ _ (by omega), by rw [gIn _ (by omega)]⟩
theorem X_full {m : Nat} {σ : ow_S} (h : σ.1 17 6 = nI m) (hm : m ≤ 14) : fX1_isFull_17 σ = some (bi (decide (m = 14)), σ) := by
  unfold fX1_isFull_17
  simp only [ow_lt, h]
  by_cases c : m = 14
  · subst c
    rw [if_neg (show ¬ nI 14 < 14 by decide)]; rfl
  · rw [if_pos (show nI m < 14 from nI_lt (b := 14) (by omega) (by decide)), decide_eq_false c]; rfl
theorem X_begin {m c : Nat} {x : Int32} {σ : ow_S} (h : σ.1 17 6 = nI m) (hm : m < 14) (h5 : σ.1 17 5 = nI c) : fX1_begin_17 x σ = some ((), ow_setI (ow_setI σ 19 m x) 20 m (nI c)) := by
  rw [fX1_begin_17, X_full h (by omega), bdS, decide_eq_false (by omega), ltE, if_pos b0f, h, if_pos (ow_in_nI hm (by decide)), nI_clamp (by omega), ltE, gIn _ (by decide), h, if_pos (ow_in_nI hm (by decide)), nI_clamp (by omega), gIn _ (by decide), h5]
theorem X_turn {m c : Nat} {σ : ow_S} (h : σ.1 17 6 = nI m) (hm : m < 14) (h5 : σ.1 17 5 = nI c) : fX1_turnToCondition_17 σ = some ((), ow_setI σ 21 m (nI c)) := by
  rw [fX1_turnToCondition_17, X_full h (by omega), bdS, decide_eq_false (by omega), ltE, if_pos b0f, h, if_pos (ow_in_nI hm (by decide)), nI_clamp (by omega), h5, ltE]
theorem X_endC {m c : Nat} {σ : ow_S} (h : σ.1 17 6 = nI m) (hm : m < 14) (h5 : σ.1 17 5 = nI c) : fX1_end_17 σ = some ((), ow_setI (ow_setI σ 22 m (nI c)) 17 6 (nI (m + 1))) := by
  rw [fX1_end_17, X_full h (by omega), bdS, decide_eq_false (by omega), ltE, if_pos b0f, h, if_pos (ow_in_nI hm (by decide)), nI_clamp (by omega), h5, ltE, gIn _ (by decide), h, nI_1, ltE]
theorem XV_fr {tb : Nat → Nat} {n i c : Nat} {σ : ow_S} (h : XV tb n σ i c) {q k : Nat} {v : Int32} (h1 : 19 ≤ q) : XV tb n (ow_setI σ q k v) i c := by
  obtain ⟨h1, h2, h3, h4, h5⟩ := h
  exact ⟨by rw [gIn _ (by omega)]; exact h1, by rw [gIn _ (by omega)]; exact h2, by rw [gIn _ (by omega)]; exact h3, fun k hk => by rw [gIn _ (by omega)]; exact h4 k hk, by rw [gIn _ (by omega)]; exact h5⟩
theorem DV_fr {F : Int32} {σ : ow_S} (h : DV σ F) {q k : Nat} {v : Int32} (h1 : 19 ≤ q) : DV (ow_setI σ q k v) F := by
  obtain ⟨h1, h2, c, h3, h4⟩ := h
  exact ⟨by rw [gIn _ (by omega)]; exact h1, h2, c, h3, by rw [gIn _ (by omega)]; exact h4⟩
theorem DV_end {F : Int32} {σ : ow_S} (h : DV σ F) {v : Int32} : DV (ow_setI σ 17 6 v) F := by
  obtain ⟨h1, h2, c, h3, h4⟩ := h
  exact ⟨by rw [gIn _ (by decide)]; exact h1, h2, c, h3, by rw [gIs, if_neg (by decide)]; exact h4⟩
/-- from the condition on, in a reading that is over -/
theorem X_condD {m : Nat} {F : Int32} {σ : ow_S} (h : DV σ F) (h6 : σ.1 17 6 = nI m) (hm : m < 14) : ∃ σ', ow_bd (fX1_turnToCondition_17 σ) (fun _ s10 => ow_bd (fX6_take 40 s10) (fun _ s11 => ow_bd (fTX6_readChoice 1 s11) (fun _ s12 => ow_bd (fX6_take 41 s12) (fun _ s13 => ow_bd (fX1_end_17 s13) (fun _ s14 => some ((), s14)))))) = some ((), σ') ∧ xz σ σ' ∧ DV σ' F := by
  obtain ⟨c0, hc0, e0⟩ := h.2.2
  rw [X_turn h6 hm e0, bdS]
  have d0 : DV (ow_setI σ 21 m (nI c0)) F := DV_fr h (by decide)
  obtain ⟨s1, a1, a2, a3⟩ := X_takeD (x := 40) d0
  obtain ⟨s2, b1, b2, b3⟩ := X_choD a3
  obtain ⟨s3, d1, d2, d3⟩ := X_takeD (x := 41) b3
  have h63 : s3.1 17 6 = nI m := by rw [d2.2.2.2 6 (by decide), b2.2.2.2 6 (by decide), a2.2.2.2 6 (by decide), gIn _ (by decide)]; exact h6
  obtain ⟨c3, hc3, e3⟩ := d3.2.2
  rw [a1, bdS, b1, bdS, d1, bdS, X_endC h63 hm e3, bdS]
  exact ⟨_, rfl, xz_tr (xz_set (by decide) (by decide)) (xz_tr (xq_z (xq_tr a2 (xq_tr b2 d2))) (xz_tr (xz_set (by decide) (by decide)) (xz_set (by decide) (by decide)))), DV_end (DV_fr d3 (by decide))⟩
theorem X_condC {tb : Nat → Nat} {n i c m : Nat} {σ : ow_S} (hb : ∀ i, tb i < 256) (hn : n ≤ 200) (h : XV tb n σ i c) (hi : i ≤ n) (hc : c ≤ i) (h6 : σ.1 17 6 = nI m) (hm : m < 14) : match pCond (cxN tb n) i with
    | .inl F => ∃ σ', ow_bd (fX1_turnToCondition_17 σ) (fun _ s10 => ow_bd (fX6_take 40 s10) (fun _ s11 => ow_bd (fTX6_readChoice 1 s11) (fun _ s12 => ow_bd (fX6_take 41 s12) (fun _ s13 => ow_bd (fX1_end_17 s13) (fun _ s14 => some ((), s14)))))) = some ((), σ') ∧ xz σ σ' ∧ DV σ' F
    | .inr (k, C) => ∃ σ' c', ow_bd (fX1_turnToCondition_17 σ) (fun _ s10 => ow_bd (fX6_take 40 s10) (fun _ s11 => ow_bd (fTX6_readChoice 1 s11) (fun _ s12 => ow_bd (fX6_take 41 s12) (fun _ s13 => ow_bd (fX1_end_17 s13) (fun _ s14 => some ((), s14)))))) = some ((), σ') ∧ xz σ σ' ∧ XV tb n σ' k c' ∧ i < k ∧ k ≤ n ∧ c ≤ c' ∧ c' ≤ k ∧ (∀ q, q < c → σ'.1 18 q = σ.1 18 q) ∧ σ'.1 19 = σ.1 19 ∧ σ'.1 20 = σ.1 20 ∧ (∀ q, σ'.1 21 q = if q = m then nI c else σ.1 21 q) ∧ (∀ q, σ'.1 22 q = if q = m then nI c' else σ.1 22 q) ∧ σ'.1 17 6 = nI (m + 1) ∧ SC (σ'.1 18) c c' 40 C := by
  rw [X_turn h6 hm h.2.2.2.2, bdS]
  have h1 : XV tb n (ow_setI σ 21 m (nI c)) i c := XV_fr h (by decide)
  have h61 : (ow_setI σ 21 m (nI c)).1 17 6 = nI m := by rw [gIn _ (by decide)]; exact h6
  have z1 : xz σ (ow_setI σ 21 m (nI c)) := xz_set (by decide) (by decide)
  unfold pCond
  have ht := X_tak (L := 40) hb h1 hn hi (by decide)
  have ht' : fX6_take 40 (ow_setI σ 21 m (nI c)) = _ := ht
  rw [ht', bdS]
  by_cases c40 : cxN tb n i = 40
  · have hlt : i < n := cx_lt c40 (by decide)
    rw [if_pos c40, if_pos c40]
    have hI := X_cho hb hn (X_pPi hb hn 5 9 1 rfl (by decide)) (i + 1) c _ (X_go h1 (i + 1)) (by omega) (by omega)
    unfold clP
    cases hr : pCho (cxN tb n) (pPi (cxN tb n) 5) (i + 1) with
    | inl F =>
      rw [hr] at hI
      obtain ⟨s2, a1, a2, a3⟩ := hI
      have a1' : fTX6_readChoice 1 (ow_setI (ow_setI σ 21 m (nI c)) 15 3 (nI (i + 1))) = some ((), s2) := a1
      obtain ⟨s3, d1, d2, d3⟩ := X_takeD (x := 41) a3
      have h63 : s3.1 17 6 = nI m := by rw [d2.2.2.2 6 (by decide), a2.2.2.2 6 (by decide), gIn _ (by decide)]; exact h61
      obtain ⟨c3, hc3, e3⟩ := d3.2.2
      rw [a1', bdS, d1, bdS, X_endC h63 hm e3, bdS]
      exact ⟨_, rfl, xz_tr z1 (xz_tr (xq_z (xq_tr (xq_15 (by decide)) (xq_tr a2 d2))) (xz_tr (xz_set (by decide) (by decide)) (xz_set (by decide) (by decide)))), DV_end (DV_fr d3 (by decide))⟩
    | inr r =>
      obtain ⟨j, V⟩ := r
      rw [hr] at hI
      obtain ⟨hij, s2, c', a1, a2, a3, a4, a5, a6, a7, a8⟩ := hI
      have a1' : fTX6_readChoice 1 (ow_setI (ow_setI σ 21 m (nI c)) 15 3 (nI (i + 1))) = some ((), s2) := a1
      have ht2 := X_tak (L := 41) hb a3 hn a4 (by decide)
      have ht2' : fX6_take 41 s2 = _ := ht2
      have h62 : s2.1 17 6 = nI m := by rw [a2.2.2.2 6 (by decide), gIn _ (by decide)]; exact h61
      rw [a1', bdS, ht2', bdS]
      show match (if cxN tb n j = 41 then (.inr (j + 1, V) : pR) else .inl (flt 1 j)) with
        | .inl F => _
        | .inr (k, C) => _
      by_cases c41 : cxN tb n j = 41
      · have hlt2 : j < n := cx_lt c41 (by decide)
        have h63 : (ow_setI s2 15 3 (nI (j + 1))).1 17 6 = nI m := by rw [gIn _ (by decide)]; exact h62
        rw [if_pos c41, if_pos c41, X_endC h63 hm (X_go a3 (j + 1)).2.2.2.2, bdS]
        have E : ∀ q, q ≠ 15 → q ≠ 17 → q ≠ 18 → q ≠ 21 → q ≠ 22 → (ow_setI (ow_setI (ow_setI s2 15 3 (nI (j + 1))) 22 m (nI c')) 17 6 (nI (m + 1))).1 q = σ.1 q := fun q x1 x2 x3 x4 x5 => by
          rw [gIc _ _ _ _ _ x2, gIc _ _ _ _ _ x5, gIc _ _ _ _ _ x1, a2.2.1 q x1 x2 x3, gIc _ _ _ _ _ x1, gIc _ _ _ _ _ x4]
        refine ⟨_, c', rfl, xz_tr z1 (xz_tr (xq_z (xq_tr (xq_15 (by decide)) (xq_tr a2 (xq_15 (by decide))))) (xz_tr (xz_set (by decide) (by decide)) (xz_set (by decide) (by decide)))), ?_, by omega, by omega, a5, by omega, fun q hq => ?_, E 19 (by decide) (by decide) (by decide) (by decide) (by decide), E 20 (by decide) (by decide) (by decide) (by decide) (by decide), fun q => ?_, fun q => ?_, by rw [gIs, if_pos rfl], ?_⟩
        · obtain ⟨v1, v2, v3, v4, v5⟩ := XV_fr (q := 22) (k := m) (v := nI c') (X_go a3 (j + 1)) (by decide)
          exact ⟨by rw [gIn _ (by decide)]; exact v1, by rw [gIn _ (by decide)]; exact v2, by rw [gIn _ (by decide)]; exact v3, fun k hk => by rw [gIn _ (by decide)]; exact v4 k hk, by rw [gIs, if_neg (by decide)]; exact v5⟩
        · rw [gIn _ (by decide), gIn _ (by decide), gIn _ (by decide), a7 q hq, gIn _ (by decide), gIn _ (by decide)]
        · rw [gIn _ (by decide), gIn _ (by decide), gIn _ (by decide), a2.2.1 21 (by decide) (by decide) (by decide), gIn _ (by decide), gIs]
        · rw [gIn _ (by decide), gIs]
          by_cases e : q = m
          · rw [if_pos e, if_pos e]
          · rw [if_neg e, if_neg e, gIn _ (by decide), a2.2.1 22 (by decide) (by decide) (by decide), gIn _ (by decide), gIn _ (by decide)]
        · rw [gIc _ _ _ _ _ (by decide), gIc _ _ _ _ _ (by decide), gIc _ _ _ _ _ (by decide)]
          exact a8.le (by decide)
      · rw [if_neg c41, if_neg c41]
        have dd := X_failed (k := 1) a3 (by decide) (by decide) (by omega) (by omega)
        have h63 : (ow_setI s2 15 4 (flt 1 j)).1 17 6 = nI m := by rw [gIn _ (by decide)]; exact h62
        obtain ⟨c3, hc3, e3⟩ := dd.2.2
        rw [X_endC h63 hm e3, bdS]
        exact ⟨_, rfl, xz_tr z1 (xz_tr (xq_z (xq_tr (xq_15 (by decide)) (xq_tr a2 (xq_15 (by decide))))) (xz_tr (xz_set (by decide) (by decide)) (xz_set (by decide) (by decide)))), DV_end (DV_fr dd (by decide))⟩
  · rw [if_neg c40, if_neg c40]
    have dd := X_failed (k := 1) h1 (by decide) (by decide) (by omega) (by omega)
    obtain ⟨s2, b1, b2, b3⟩ := X_choD dd
    obtain ⟨s3, d1, d2, d3⟩ := X_takeD (x := 41) b3
    have h63 : s3.1 17 6 = nI m := by rw [d2.2.2.2 6 (by decide), b2.2.2.2 6 (by decide), gIn _ (by decide)]; exact h61
    obtain ⟨c3, hc3, e3⟩ := d3.2.2
    rw [b1, bdS, d1, bdS, X_endC h63 hm e3, bdS]
    exact ⟨_, rfl, xz_tr z1 (xz_tr (xq_z (xq_tr (xq_15 (by decide)) (xq_tr b2 d2))) (xz_tr (xz_set (by decide) (by decide)) (xz_set (by decide) (by decide)))), DV_end (DV_fr d3 (by decide))⟩
