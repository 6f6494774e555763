/-! the reference reads conditions -/
def cLP (m : Nat) (a : Int32) (s : ow_S) : Option (Unit × ow_S) := fX10_condition_l37 (fun  (s16 : ow_S) => some ((), s16)) m a s
def cGB (m : Nat) (s : ow_S) : Option (Unit × ow_S) := ow_bd (fX10_goesBehind s) (fun r14 s13 => cLP m r14 s13)
def cJ59 (m : Nat) (a : Int32) (s10 : ow_S) : Option (Unit × ow_S) := ow_bd (fX10_isGood s10) (fun r12 s11 => if r12 = 0 then (cLP m a s11) else (ow_bd (fX10_goesBehind s11) (fun r14 s13 => cLP m r14 s13)))
theorem cLP_eq (m : Nat) (a : Int32) (s : ow_S) : cLP (m + 1) a s = ow_bd (fX10_isGood s) (fun r9 s8 => if r9 = 0 then (some ((), s8)) else (if (s8.1 0 31) = 0 then (if a = 0 then (cJ59 m a s8) else (ow_bd (fX10_pieceOfC s8) (fun _ s15 => cJ59 m a s15))) else (some ((), s8)))) := by
  unfold cLP
  rw [fX10_condition_l37]
  rfl
def cKQ (s12 : ow_S) : Option (Unit × ow_S) := ow_bd (fX10_isGood s12) (fun r14 s13 => if r14 = 0 then (some ((), s13)) else (ow_bd (fX10_here s13) (fun r16 s15 => ow_bd (fX10_isSign r16 s15) (fun r18 s17 => if r18 = 0 then (ow_bd (fX10_wrongs 1 (s17.1 0 24) s17) (fun _ s28 => some ((), s28))) else (ow_bd (fX10_puts r16 s17) (fun _ s19 => ow_bd (fX10_value s19) (fun _ s20 => ow_bd (fX10_isGood s20) (fun r22 s21 => if r22 = 0 then (some ((), s21)) else (ow_bd (fX10_top s21) (fun r24 s23 => ow_bd (fX10_emit r24 0 s23) (fun _ s25 => ow_lt (ow_setI s25 0 30 ((s25.1 0 30) - 1)) (fun s26 => ow_bd (fX10_ends s26) (fun _ s27 => some ((), s27))))))))))))))
def cKP (s9 : ow_S) : Option (Unit × ow_S) := ow_bd (fX10_isGood s9) (fun r11 s10 => if r11 = 0 then (cKQ s10) else (ow_bd (fX10_value s10) (fun _ s29 => cKQ s29)))
def cPL (f m : Nat) (s : ow_S) : Option (Unit × ow_S) := ow_bd (fX10_pieceOfC_l0 cKP f s) (fun _ s15 => cJ59 m 1 s15)
def cEN (g m : Nat) (s : ow_S) : Option (Unit × ow_S) := ow_bd (fX10_ends_l0 g s) (fun _ s' => cGB m s')
theorem piece_eq (s : ow_S) : fX10_pieceOfC s = fX10_pieceOfC_l0 cKP ow_FU s := by
  rw [fX10_pieceOfC]
  rfl
theorem cLP_D {m : Nat} {a F : Int32} {s : ow_S} (h : NDV s F) : cLP (m + 1) a s = some ((), s) := by
  rw [cLP_eq, M_goodD h, bdS, if_pos rfl]
theorem cJ_D {m : Nat} {a F : Int32} {s : ow_S} (h : NDV s F) : cJ59 (m + 1) a s = some ((), s) := by
  unfold cJ59
  rw [M_goodD h, bdS, if_pos rfl, cLP_D h]
theorem cKQ_D {F : Int32} {s : ow_S} (h : NDV s F) : cKQ s = some ((), s) := by
  unfold cKQ
  rw [M_goodD h, bdS, if_pos rfl]
theorem cKP_D {F : Int32} {s : ow_S} (h : NDV s F) : cKP s = some ((), s) := by
  unfold cKP
  rw [M_goodD h, bdS, if_pos rfl, cKQ_D h]
theorem cLP_1 {tb : Nat → Nat} {n i c d m : Nat} {st : List Nat} {s : ow_S} (h : MV tb n s i c st d) (h31 : s.1 0 31 = 0) : cLP (m + 1) 1 s = cPL ow_FU m s := by
  rw [cLP_eq, M_good h, bdS, if_neg (by decide), if_pos h31, if_neg (by decide), piece_eq]
  rfl
theorem top_st {s : ow_S} {r : Int32 × ow_S} (h : fX10_top s = some r) : r.2 = s := by
  unfold fX10_top at h
  simp only [ow_lt] at h
  split at h
  · cases h; rfl
  · split at h
    · cases h; rfl
    · cases h
theorem emit_26 {x y : Int32} {s : ow_S} {r : Unit × ow_S} (h : fX10_emit x y s = some r) : r.2.1 0 26 = s.1 0 26 := by
  unfold fX10_emit at h
  by_cases c : s.1 0 26 = 0
  · have hg : fX10_isGood s = some (1, s) := by
      unfold fX10_isGood
      simp only [ow_lt, c, if_true, is01_1]
    rw [hg, bdS, if_neg (by decide)] at h
    simp only [ow_lt] at h
    split at h
    · split at h
      · cases h
        rw [gIs, if_neg (by decide), gIn _ (by decide), gIn _ (by decide)]
      · cases h
    · cases h
  · rw [M_goodZ c, bdS, if_pos rfl] at h
    cases h
    rfl
theorem ends_J {m : Nat} {a : Int32} : ∀ (g : Nat) (s : ow_S), s.1 0 26 = 0 → ow_bd (fX10_ends_l0 g s) (fun _ s' => cJ59 m a s') = cEN g m s := by
  intro g
  induction g with
  | zero => intro s _; rfl
  | succ g ih =>
    intro s h
    unfold cEN
    rw [fX10_ends_l0]
    cases ht : fX10_top s with
    | none => rfl
    | some r =>
      have e := top_st ht
      obtain ⟨r1, r2⟩ := r
      have e' : r2 = s := e
      subst e'
      rw [bdS]
      by_cases c : r1 = 33
      · rw [if_pos c]
        cases he : fX10_emit 2 0 r2 with
        | none => rfl
        | some q =>
          obtain ⟨q1, q2⟩ := q
          have e26 : q2.1 0 26 = 0 := (emit_26 he).trans h
          rw [bdS, ltE, ltE]
          exact ih _ (by rw [gIs, if_neg (by decide), gIs, if_neg (by decide)]; exact e26)
      · rw [if_neg c, bdS, bdS]
        unfold cJ59 cGB
        have hg : fX10_isGood r2 = some (1, r2) := by
          unfold fX10_isGood
          simp only [ow_lt, h, if_true, is01_1]
        rw [hg, bdS, if_neg (by decide)]
/-- ends: one ! goes -/
theorem EN_not {tb : Nat → Nat} {n i c d g m a : Nat} {st : List Nat} {V : aV} {σ : ow_S} (h : MV tb n σ i c (33 :: st) (d + 1)) (hl : st.length < 240) (hc : c < 200) (hV : SM σ a c V) : ∃ σ', cEN (g + 1) m σ = cEN g m σ' ∧ MV tb n σ' i (c + 1) st d ∧ my σ σ' ∧ lowc σ σ' c ∧ SM σ' a (c + 1) (vNot V) ∧ σ'.1 0 31 = σ.1 0 31 := by
  have ht : fX10_top σ = some (nI 33, σ) := M_top h (by simp only [List.length_cons]; omega)
  have hv := M_emitV (x0 := 2) (x1 := 0) h
  have p1 := M_pop hv
  have e29 : ((ow_setI (ow_setI (ow_setI (ow_setI σ 16 c 2) 17 c 0) 0 28 (nI (c + 1))) 0 30 (((ow_setI (ow_setI (ow_setI σ 16 c 2) 17 c 0) 0 28 (nI (c + 1))).1 0 30) - 1)).1 0 29) - 1 = nI d := by rw [p1.2.2.2.2.1]; exact nI_pred d
  refine ⟨ow_setI (ow_setI (ow_setI (ow_setI (ow_setI σ 16 c 2) 17 c 0) 0 28 (nI (c + 1))) 0 30 (((ow_setI (ow_setI (ow_setI σ 16 c 2) 17 c 0) 0 28 (nI (c + 1))).1 0 30) - 1)) 0 29 (nI d), ?_, M_dep p1, my_tr my_emit (my_tr (my_0 rfl) (my_0 rfl)), lowc_tr lowc_emit (lowc_tr (m := c) (lowc_0 (c := c)) lowc_0 (Nat.le_refl c)) (Nat.le_refl c), ?_, ?_⟩
  · unfold cEN
    rw [fX10_ends_l0, ht, bdS, if_pos (show nI 33 = 33 from rfl), M_emit h hc, bdS, ltE, ltE, e29]
  · have hlo : lowc (ow_setI (ow_setI (ow_setI σ 16 c 2) 17 c 0) 0 28 (nI (c + 1))) (ow_setI (ow_setI (ow_setI (ow_setI (ow_setI σ 16 c 2) 17 c 0) 0 28 (nI (c + 1))) 0 30 (((ow_setI (ow_setI (ow_setI σ 16 c 2) 17 c 0) 0 28 (nI (c + 1))).1 0 30) - 1)) 0 29 (nI d)) (c + 1) := lowc_tr (m := c + 1) (lowc_0 (c := c + 1)) lowc_0 (Nat.le_refl _)
    refine SM_cg ?_ hlo (Nat.le_refl _)
    exact sgM_not (SM_cg hV lowc_emit (Nat.le_refl _)) (by rw [(M_emitC σ c c _ _ _).1, if_pos rfl])
  · rw [gIs, if_neg (by decide), gIs, if_neg (by decide), gIs, if_neg (by decide), gIn _ (by decide), gIn _ (by decide)]
theorem EN_go {tb : Nat → Nat} {n i c d g m : Nat} {st : List Nat} {σ : ow_S} (h : MV tb n σ i c st d) (hl : st.length ≤ 240) (hlt : ltt st) (h33 : tp0 st ≠ 33) : cEN (g + 1) m σ = cGB m σ := by
  have hlx := tp_lt hlt
  unfold cEN
  rw [fX10_ends_l0, M_top h hl, bdS, if_neg (show ¬ nI (tp0 st) = 33 from fun e => h33 (nI_inj (b := 33) (by omega) (by decide) e)), bdS]
/-! joins -/
theorem joins_pop {tb : Nat → Nat} {n i c d x f : Nat} {r : List Nat} {a1 : Int32} {σ : ow_S} {K : ow_S → Option (Unit × ow_S)} (h : MV tb n σ i c (x :: r) d) (hl : r.length < 240) (hc : c < 200) (hop : x = 38 ∨ (¬ a1 = 0 ∧ x = 124)) : ∃ σ', fX10_joins_l0 K a1 (f + 1) σ = fX10_joins_l0 K a1 f σ' ∧ MV tb n σ' i (c + 1) r d ∧ my σ σ' ∧ lowc σ σ' c ∧ σ'.1 16 c = nI x ∧ σ'.1 0 31 = σ.1 0 31 := by
  have ht : fX10_top σ = some (nI x, σ) := M_top h (by simp only [List.length_cons]; omega)
  have hv := M_emitV (x0 := nI x) (x1 := 0) h
  have hj : ow_bd (fX10_top σ) (fun r5 s4 => ow_bd (fX10_emit r5 0 s4) (fun _ s6 => ow_lt (ow_setI s6 0 30 ((s6.1 0 30) - 1)) (fun s7 => fX10_joins_l0 K a1 f s7))) = fX10_joins_l0 K a1 f (ow_setI (ow_setI (ow_setI (ow_setI σ 16 c (nI x)) 17 c 0) 0 28 (nI (c + 1))) 0 30 (((ow_setI (ow_setI (ow_setI σ 16 c (nI x)) 17 c 0) 0 28 (nI (c + 1))).1 0 30) - 1)) := by
    rw [ht, bdS, M_emit h hc, bdS, ltE]
  refine ⟨_, ?_, M_pop hv, my_tr my_emit (my_0 rfl), lowc_tr lowc_emit (lowc_0 (c := c)) (Nat.le_refl c), by rw [gIn _ (by decide), (M_emitC σ c c _ _ _).1, if_pos rfl], by rw [gIs, if_neg (by decide), gIs, if_neg (by decide), gIn _ (by decide), gIn _ (by decide)]⟩
  rw [fX10_joins_l0, ht, bdS, ltE]
  rcases hop with e | ⟨ha, e⟩
  · subst e
    rw [if_pos (show nI 38 = 38 from rfl)]
    exact hj
  · subst e
    rw [if_neg (show ¬ nI 124 = 38 by decide), if_neg ha, ht, bdS, if_pos (show nI 124 = 124 from rfl)]
    exact hj
theorem joins_stop {tb : Nat → Nat} {n i c d f : Nat} {st : List Nat} {a1 : Int32} {σ : ow_S} {K : ow_S → Option (Unit × ow_S)} (h : MV tb n σ i c st d) (hx : tp0 st < 256) (hl : st.length ≤ 240) (h1 : tp0 st ≠ 38) (h2 : a1 = 0 ∨ tp0 st ≠ 124) : fX10_joins_l0 K a1 (f + 1) σ = K σ := by
  have ht := M_top h hl
  rw [fX10_joins_l0, ht, bdS, ltE, if_neg (show ¬ nI (tp0 st) = 38 from fun e => h1 (nI_inj (b := 38) (by omega) (by decide) e))]
  by_cases c : a1 = 0
  · rw [if_pos c]
  · rw [if_neg c, ht, bdS, if_neg (show ¬ nI (tp0 st) = 124 from fun e => (h2.resolve_left c) (nI_inj (b := 124) (by omega) (by decide) e))]
def pdA (aa : Option aV) : List Nat := match aa with
  | none => []
  | some _ => [38]
def pdO (oa : Option aV) : List Nat := match oa with
  | none => []
  | some _ => [124]
def po (oa : Option aV) : Nat := match oa with
  | none => 0
  | some _ => 1
/-- what waits ahead of a piece -/
def wS2 (σ : ow_S) (a b : Nat) (oa : Option aV) : Prop := match oa with
  | none => b = a
  | some A => SM σ a b A
theorem wS2_cg {σ σ' : ow_S} {a b k : Nat} {oa : Option aV} (h : wS2 σ a b oa) (e : lowc σ σ' k) (hb : b ≤ k) : wS2 σ' a b oa := by
  cases oa with
  | none => exact h
  | some A => exact SM_cg h e hb
theorem M_jA {tb : Nat → Nat} {n i a b c d f : Nat} {rest : List Nat} {a1 : Int32} {aa : Option aV} {V : aV} {σ : ow_S} {K : ow_S → Option (Unit × ow_S)} (h : MV tb n σ i c (pdA aa ++ rest) d) (hl : rest.length < 240) (hc : c + po aa ≤ 200) (hab : b ≤ c) (hw : wS2 σ a b aa) (hV : SM σ b c V) : ∃ σ' f', fX10_joins_l0 K a1 (f + 1) σ = fX10_joins_l0 K a1 f' σ' ∧ f ≤ f' ∧ MV tb n σ' i (c + po aa) rest d ∧ my σ σ' ∧ lowc σ σ' c ∧ SM σ' a (c + po aa) (jA aa V) ∧ σ'.1 0 31 = σ.1 0 31 := by
  cases aa with
  | none =>
    have e : b = a := hw
    subst e
    exact ⟨σ, f + 1, rfl, by omega, h, my_rf, lowc_rf, hV, rfl⟩
  | some A =>
    have hc2 : c + 1 ≤ 200 := hc
    obtain ⟨s1, a1', a2, a3, a4, a5, a6⟩ := joins_pop (K := K) (f := f) (a1 := a1) h hl (by omega) (Or.inl rfl)
    exact ⟨s1, f, a1', Nat.le_refl _, a2, a3, a4, sgM_and (SM_cg hw a4 hab) (SM_cg hV a4 (Nat.le_refl _)) a5, a6⟩
theorem M_jO {tb : Nat → Nat} {n i a b c d f : Nat} {rest : List Nat} {oa : Option aV} {V : aV} {σ : ow_S} {K : ow_S → Option (Unit × ow_S)} (h : MV tb n σ i c (pdO oa ++ rest) d) (hl : rest.length < 240) (hc : c + po oa ≤ 200) (hab : b ≤ c) (hw : wS2 σ a b oa) (hV : SM σ b c V) : ∃ σ' f', fX10_joins_l0 K 1 (f + 1) σ = fX10_joins_l0 K 1 f' σ' ∧ f ≤ f' ∧ MV tb n σ' i (c + po oa) rest d ∧ my σ σ' ∧ lowc σ σ' c ∧ SM σ' a (c + po oa) (jO oa V) ∧ σ'.1 0 31 = σ.1 0 31 := by
  cases oa with
  | none =>
    have e : b = a := hw
    subst e
    exact ⟨σ, f + 1, rfl, by omega, h, my_rf, lowc_rf, hV, rfl⟩
  | some A =>
    have hc2 : c + 1 ≤ 200 := hc
    obtain ⟨s1, a1', a2, a3, a4, a5, a6⟩ := joins_pop (K := K) (f := f) (a1 := 1) h hl (by omega) (Or.inr ⟨by decide, rfl⟩)
    exact ⟨s1, f, a1', Nat.le_refl _, a2, a3, a4, sgM_or (SM_cg hw a4 hab) (SM_cg hV a4 (Nat.le_refl _)) a5, a6⟩
theorem M_joins1 {tb : Nat → Nat} {n i a b b2 c d : Nat} {st : List Nat} {oa aa : Option aV} {V : aV} {σ : ow_S} (h : MV tb n σ i c (pdA aa ++ (pdO oa ++ (40 :: st))) d) (hl : st.length < 230) (hc : c + po aa + po oa ≤ 200) (hb : b ≤ b2) (hb2 : b2 ≤ c) (hO : wS2 σ a b oa) (hA : wS2 σ b b2 aa) (hV : SM σ b2 c V) : ∃ σ', fX10_joins 1 σ = some ((), σ') ∧ MV tb n σ' i (c + po aa + po oa) (40 :: st) d ∧ my σ σ' ∧ lowc σ σ' b ∧ SM σ' a (c + po aa + po oa) (jO oa (jA aa V)) ∧ σ'.1 0 31 = σ.1 0 31 := by
  have l1 : (pdO oa).length ≤ 1 := by cases oa <;> simp [pdO]
  rw [fX10_joins, show ow_FU = 99999 + 1 from rfl]
  obtain ⟨s1, f1, a1, a2, a3, a4, a5, a6, a7⟩ := M_jA (K := fun (s10 : ow_S) => some ((), s10)) (f := 99999) (a1 := 1) h (by rw [List.length_append, List.length_cons]; omega) (by omega) hb2 hA hV
  obtain ⟨f1, rfl⟩ : ∃ z, f1 = z + 1 := ⟨f1 - 1, by omega⟩
  obtain ⟨s2, f2, b1, b2', b3, b4, b5, b6, b7⟩ := M_jO (K := fun (s10 : ow_S) => some ((), s10)) (f := f1) a3 (by rw [List.length_cons]; omega) (by omega) (show b ≤ c + po aa by omega) (wS2_cg hO a5 (by omega)) a6
  obtain ⟨f2, rfl⟩ : ∃ z, f2 = z + 1 := ⟨f2 - 1, by omega⟩
  refine ⟨s2, ?_, b3, my_tr a4 b4, lowc_tr (m := b) (fun q hq => a5 q (by omega)) (fun q hq => b5 q (by omega)) (Nat.le_refl _), b6, by rw [b7, a7]⟩
  rw [a1, b1, joins_stop b3 (by show (40 : Nat) < 256; decide) (by rw [List.length_cons]; omega) (by show (40 : Nat) ≠ 38; decide) (Or.inr (by show (40 : Nat) ≠ 124; decide))]
/-- a piece is read -/
def MPi (tb : Nat → Nat) (n d : Nat) (p : Nat → pR) : Prop := ∀ i c st σ f m, st ≠ [] → MV tb n σ i c st d → i ≤ n → c ≤ i → st.length ≤ i → nt st → tp0 st ≠ 91 → ltt st → σ.1 0 31 = 0 → n < i + f → n < i + m → match p i with
  | .inl F => MOF σ F (cPL f m σ)
  | .inr (j, V) => (cxN tb n j = 93 ∧ j ≤ n ∧ MOF σ (flt 1 j) (cPL f m σ)) ∨ ∃ σ' c' m' g', cPL f m σ = cEN g' m' σ' ∧ my σ σ' ∧ MV tb n σ' j c' st d ∧ i < j ∧ j ≤ n ∧ c ≤ c' ∧ c' + i ≤ c + j ∧ lowc σ σ' c ∧ SM σ' c c' V ∧ n < j + m' ∧ 50 + d ≤ g' ∧ σ'.1 0 31 = 0
/-- behind ( a choice and ) -/
def MCr (tb : Nat → Nat) (n d : Nat) (σ : ow_S) (i0 c0 : Nat) (st : List Nat) (r : pR) (o : Option (Unit × ow_S)) : Prop := match r with
  | .inl F => MOF σ F o
  | .inr (j, V) => ∃ σ' c', my σ σ' ∧ MV tb n σ' j c' st d ∧ i0 < j ∧ j ≤ n ∧ c0 ≤ c' ∧ c' + i0 ≤ c0 + j ∧ lowc σ σ' c0 ∧ SM σ' c0 c' V ∧ (if st = [] then o = some ((), σ') else ∃ m', o = cEN ow_FU m' σ' ∧ n < j + m' ∧ σ'.1 0 31 = 0)
theorem tCh_93 {tb : Nat → Nat} {n k j : Nat} {p : Nat → pR} {oa aa : Option aV} {V : aV} (h : cxN tb n j = 93) (hk : 1 ≤ k) : clP (cxN tb n) (tCh p (cxN tb n) k oa aa V j) = .inl (flt 1 j) := by
  obtain ⟨k, rfl⟩ : ∃ z, k = z + 1 := ⟨k - 1, by omega⟩
  unfold tCh clP
  rw [if_neg (by omega), if_neg (by omega)]
  show (if cxN tb n j = 41 then _ else _) = _
  rw [if_neg (by omega)]
theorem M_ctail {tb : Nat → Nat} {n d : Nat} (hb : ∀ i, tb i < 256) (hn : n ≤ 200) {p : Nat → pR} (hF : MPi tb n (d + 1) p) : ∀ (k : Nat) (oa aa : Option aV) (V : aV) (i c i0 c0 b b2 g m : Nat) (st : List Nat) (σ : ow_S), MV tb n σ i c (pdA aa ++ (pdO oa ++ (40 :: st))) (d + 1) → i ≤ n → n < i + k → n < i + m → 1 ≤ g → i0 < i → c0 ≤ i0 → c + po aa + po oa + i0 ≤ c0 + i → st.length + 1 ≤ i0 → ltt st → c0 ≤ b → b ≤ b2 → b2 ≤ c → wS2 σ c0 b oa → wS2 σ b b2 aa → SM σ b2 c V → σ.1 0 31 = 0 → MCr tb n d σ i0 c0 st (clP (cxN tb n) (tCh p (cxN tb n) k oa aa V i)) (cEN g m σ) := by
  intro k
  induction k with
  | zero => intros; omega
  | succ k ih =>
    intro oa aa V i c i0 c0 b b2 g m st σ h hi hk hm hg hi0 h0 hc hst hlt hcb hbb hbc hO hA hV h31
    obtain ⟨m, rfl⟩ : ∃ z, m = z + 1 := ⟨m - 1, by omega⟩
    obtain ⟨g, rfl⟩ : ∃ z, g = z + 1 := ⟨g - 1, by omega⟩
    have hFU : 202 < ow_FU := by decide
    have l1 : (pdO oa).length = po oa := by cases oa <;> rfl
    have l2 : (pdA aa).length = po aa := by cases aa <;> rfl
    have p1 : po oa ≤ 1 := by cases oa <;> simp [po]
    have p2 : po aa ≤ 1 := by cases aa <;> simp [po]
    have lt40 : ltt (40 :: st) := ltt_cons (by decide) hlt
    have ltO : ltt (pdO oa ++ (40 :: st)) := by
      cases oa with
      | none => exact lt40
      | some A => exact ltt_cons (by decide) lt40
    have ltA : ltt (pdA aa ++ (pdO oa ++ (40 :: st))) := by
      cases aa with
      | none => exact ltO
      | some A => exact ltt_cons (by decide) ltO
    have ht33 : tp0 (pdA aa ++ (pdO oa ++ (40 :: st))) ≠ 33 := by
      cases aa with
      | none =>
        cases oa with
        | none => show (40 : Nat) ≠ 33; decide
        | some A => show (124 : Nat) ≠ 33; decide
      | some A => show (38 : Nat) ≠ 33; decide
    have hlen : (pdA aa ++ (pdO oa ++ (40 :: st))).length ≤ 240 := by
      rw [List.length_append, List.length_append, List.length_cons]
      omega
    have e38 := hr_eq (tb := tb) (n := n) (i := i) (L := 38) (l := 38) hb rfl (by decide) (by decide)
    have e124 := hr_eq (tb := tb) (n := n) (i := i) (L := 124) (l := 124) hb rfl (by decide) (by decide)
    have e41 := hr_eq (tb := tb) (n := n) (i := i) (L := 41) (l := 41) hb rfl (by decide) (by decide)
    rw [EN_go h hlen ltA ht33]
    unfold cGB
    rw [fX10_goesBehind, M_here h hn hi, bdS, ltE]
    unfold tCh
    by_cases ct : cxN tb n i = 38
    · have hin : i < n := cx_lt ct (by decide)
      rw [if_pos ct, if_pos (e38.mpr ct)]
      dsimp only
      rw [ltE, if_neg (fun e => by have := e124.mp e; omega)]
      dsimp only
      rw [fX10_joins]
      conv => arg 9; rw [show ow_FU = 99999 + 1 from rfl]
      obtain ⟨s1, f1, a1, a2, a3, a4, a5, a6, a7⟩ := M_jA (K := fun (s10 : ow_S) => some ((), s10)) (f := 99999) (a1 := 0) h (by rw [List.length_append, List.length_cons]; omega) (by omega) hbc hA hV
      obtain ⟨f1, rfl⟩ : ∃ z, f1 = z + 1 := ⟨f1 - 1, by omega⟩
      have hstop : fX10_joins_l0 (fun (s10 : ow_S) => some ((), s10)) 0 (f1 + 1) s1 = some ((), s1) := by
        refine joins_stop a3 (tp_lt ltO) (by rw [List.length_append, List.length_cons]; omega) ?_ (Or.inl rfl)
        cases oa with
        | none => show (40 : Nat) ≠ 38; decide
        | some A => show (124 : Nat) ≠ 38; decide
      obtain ⟨s2, b1, b2', b3, b4, b5, b6⟩ := M_puts (x := cxN tb n i) a3 (by rw [List.length_append, List.length_cons]; omega)
      have hq : my σ s2 := my_tr a4 b3
      have hlow : lowc σ s2 c := lowc_tr (m := c) a5 (b4 c) (Nat.le_refl c)
      have e31 : s2.1 0 31 = 0 := by rw [b5, a7]; exact h31
      have hhr : hr tb n i = nI (cxN tb n i) := by rw [hr_nI, hc_eq hin]
      rw [a1, hstop, bdS, hhr, b1, bdS, if_pos is01_1, bdS, cLP_1 b2' e31]
      have hI := hF (i + 1) (c + po aa) (cxN tb n i :: (pdO oa ++ (40 :: st))) s2 ow_FU m (List.cons_ne_nil _ _) b2' (by omega) (by omega) (by rw [List.length_cons, List.length_append, List.length_cons]; omega) (by show ¬ isTm (cxN tb n i) ∧ ¬ isPl (cxN tb n i); rw [ct]; decide) (by show cxN tb n i ≠ 91; omega) (ltt_cons (by omega) ltO) e31 (by omega) (by omega)
      cases hr1 : p (i + 1) with
      | inl F =>
        rw [hr1] at hI
        obtain ⟨s3, d1, d2, d3⟩ := hI
        exact ⟨s3, d1, my_tr hq d2, d3⟩
      | inr r =>
        obtain ⟨j, W⟩ := r
        rw [hr1] at hI
        have ep : pB (.inr (j, W)) (fun j W => tCh p (cxN tb n) k oa (some (jA aa V)) W j) = tCh p (cxN tb n) k oa (some (jA aa V)) W j := by rw [pB]
        rw [ep]
        rcases hI with ⟨x1, x0, s3, x2, x3, x4⟩ | ⟨s3, c', m', g', d1, d2, d3, d4, d5, d6, d7, d8, d9, d10, d11, d12⟩
        · rw [tCh_93 x1 (by omega)]
          exact ⟨s3, x2, my_tr hq x3, x4⟩
        · rw [d1]
          have d3' : MV tb n s3 j c' (pdA (some (jA aa V)) ++ (pdO oa ++ (40 :: st))) (d + 1) := by
            rw [ct] at d3
            exact d3
          have hA2 : wS2 s3 b (c + po aa) (some (jA aa V)) := SM_cg (SM_cg a6 (b4 _) (Nat.le_refl _)) d8 (Nat.le_refl _)
          have := ih oa (some (jA aa V)) W j c' i0 c0 b (c + po aa) g' m' st s3 d3' d5 (by omega) d10 (by omega) (by omega) h0 (show c' + 1 + po oa + i0 ≤ c0 + j by omega) hst hlt hcb (by omega) d6 (wS2_cg (wS2_cg hO hlow (by omega)) d8 (by omega)) hA2 d9 d12
          generalize clP (cxN tb n) (tCh p (cxN tb n) k oa (some (jA aa V)) W j) = R at this ⊢
          revert this
          cases R with
          | inl F => rintro ⟨s4, q1, q2, q3⟩; exact ⟨s4, q1, my_tr hq (my_tr d2 q2), q3⟩
          | inr r => rintro ⟨s4, c4, q2, q3, q4, q5, q6, q7, q8, q9, q10⟩; exact ⟨s4, c4, my_tr hq (my_tr d2 q2), q3, q4, q5, q6, q7, lowc_tr (m := c0) (fun q hq => hlow q (by omega)) (lowc_tr (m := c0) (fun q hq => d8 q (by omega)) q8 (Nat.le_refl _)) (Nat.le_refl _), q9, q10⟩
    · rw [if_neg ct, if_neg (fun e => ct (e38.mp e))]
      obtain ⟨s1, a1, a2, a3, a4, a5, a6⟩ := M_joins1 h (by omega) (by omega) hbb hbc hO hA hV
      by_cases co : cxN tb n i = 124
      · have hin : i < n := cx_lt co (by decide)
        rw [if_pos co, if_pos (e124.mpr co)]
        dsimp only
        rw [ltE, if_pos (e124.mpr co)]
        dsimp only
        obtain ⟨s2, b1, b2', b3, b4, b5, b6⟩ := M_puts (x := cxN tb n i) a2 (by rw [List.length_cons]; omega)
        have hq : my σ s2 := my_tr a3 b3
        have hlow : lowc σ s2 c0 := lowc_tr (m := c0) (fun q hq => a4 q (by omega)) (b4 c0) (Nat.le_refl c0)
        have e31 : s2.1 0 31 = 0 := by rw [b5, a6]; exact h31
        have hhr : hr tb n i = nI (cxN tb n i) := by rw [hr_nI, hc_eq hin]
        rw [a1, bdS, hhr, b1, bdS, if_pos is01_1, bdS, cLP_1 b2' e31]
        have hI := hF (i + 1) (c + po aa + po oa) (cxN tb n i :: (40 :: st)) s2 ow_FU m (List.cons_ne_nil _ _) b2' (by omega) (by omega) (by rw [List.length_cons, List.length_cons]; omega) (by show ¬ isTm (cxN tb n i) ∧ ¬ isPl (cxN tb n i); rw [co]; decide) (by show cxN tb n i ≠ 91; omega) (ltt_cons (by omega) lt40) e31 (by omega) (by omega)
        cases hr1 : p (i + 1) with
        | inl F =>
          rw [hr1] at hI
          obtain ⟨s3, d1, d2, d3⟩ := hI
          exact ⟨s3, d1, my_tr hq d2, d3⟩
        | inr r =>
          obtain ⟨j, W⟩ := r
          rw [hr1] at hI
          have ep : pB (.inr (j, W)) (fun j W => tCh p (cxN tb n) k (some (jO oa (jA aa V))) none W j) = tCh p (cxN tb n) k (some (jO oa (jA aa V))) none W j := by rw [pB]
          rw [ep]
          rcases hI with ⟨x1, x0, s3, x2, x3, x4⟩ | ⟨s3, c', m', g', d1, d2, d3, d4, d5, d6, d7, d8, d9, d10, d11, d12⟩
          · rw [tCh_93 x1 (by omega)]
            exact ⟨s3, x2, my_tr hq x3, x4⟩
          · rw [d1]
            have d3' : MV tb n s3 j c' (pdA none ++ (pdO (some (jO oa (jA aa V))) ++ (40 :: st))) (d + 1) := by
              rw [co] at d3
              exact d3
            have hO2 : wS2 s3 c0 (c + po aa + po oa) (some (jO oa (jA aa V))) := SM_cg (SM_cg a5 (b4 _) (Nat.le_refl _)) d8 (Nat.le_refl _)
            have := ih (some (jO oa (jA aa V))) none W j c' i0 c0 (c + po aa + po oa) (c + po aa + po oa) g' m' st s3 d3' d5 (by omega) d10 (by omega) (by omega) h0 (show c' + 0 + 1 + i0 ≤ c0 + j by omega) hst hlt (by omega) (Nat.le_refl _) d6 hO2 rfl d9 d12
            generalize clP (cxN tb n) (tCh p (cxN tb n) k (some (jO oa (jA aa V))) none W j) = R at this ⊢
            revert this
            cases R with
            | inl F => rintro ⟨s4, q1, q2, q3⟩; exact ⟨s4, q1, my_tr hq (my_tr d2 q2), q3⟩
            | inr r => rintro ⟨s4, c4, q2, q3, q4, q5, q6, q7, q8, q9, q10⟩; exact ⟨s4, c4, my_tr hq (my_tr d2 q2), q3, q4, q5, q6, q7, lowc_tr (m := c0) hlow (lowc_tr (m := c0) (fun q hq => d8 q (by omega)) q8 (Nat.le_refl _)) (Nat.le_refl _), q9, q10⟩
      · rw [if_neg co, if_neg (fun e => co (e124.mp e))]
        unfold clP
        show MCr tb n d σ i0 c0 st (if cxN tb n i = 41 then .inr (i + 1, jO oa (jA aa V)) else .inl (flt 1 i)) _
        by_cases c41 : cxN tb n i = 41
        · have hin : i < n := cx_lt c41 (by decide)
          rw [if_pos c41, if_pos (e41.mpr c41), a1, bdS, ltE, ltE, ltE]
          have p1' := M_pop a2
          have p2' : MV tb n (ow_setI (ow_setI s1 0 30 ((s1.1 0 30) - 1)) 0 29 (((ow_setI s1 0 30 ((s1.1 0 30) - 1)).1 0 29) - 1)) i (c + po aa + po oa) st d := by
            have e : ((ow_setI s1 0 30 ((s1.1 0 30) - 1)).1 0 29) - 1 = nI d := by rw [p1'.2.2.2.2.1]; exact nI_pred d
            rw [e]
            exact M_dep p1'
          have p3' : MV tb n (ow_setI (ow_setI (ow_setI s1 0 30 ((s1.1 0 30) - 1)) 0 29 (((ow_setI s1 0 30 ((s1.1 0 30) - 1)).1 0 29) - 1)) 0 24 (((ow_setI (ow_setI s1 0 30 ((s1.1 0 30) - 1)) 0 29 (((ow_setI s1 0 30 ((s1.1 0 30) - 1)).1 0 29) - 1)).1 0 24) + 1)) (i + 1) (c + po aa + po oa) st d := by
            rw [p2'.1, nI_1]
            exact M_go p2'
          have hy3 : my σ (ow_setI (ow_setI (ow_setI s1 0 30 ((s1.1 0 30) - 1)) 0 29 (((ow_setI s1 0 30 ((s1.1 0 30) - 1)).1 0 29) - 1)) 0 24 (((ow_setI (ow_setI s1 0 30 ((s1.1 0 30) - 1)) 0 29 (((ow_setI s1 0 30 ((s1.1 0 30) - 1)).1 0 29) - 1)).1 0 24) + 1)) := my_tr a3 (my_tr (my_0 rfl) (my_tr (my_0 rfl) (my_0 rfl)))
          have hlo3 : ∀ q, lowc s1 (ow_setI (ow_setI (ow_setI s1 0 30 ((s1.1 0 30) - 1)) 0 29 (((ow_setI s1 0 30 ((s1.1 0 30) - 1)).1 0 29) - 1)) 0 24 (((ow_setI (ow_setI s1 0 30 ((s1.1 0 30) - 1)) 0 29 (((ow_setI s1 0 30 ((s1.1 0 30) - 1)).1 0 29) - 1)).1 0 24) + 1)) q := fun q => lowc_tr (m := q) (lowc_0 (c := q)) (lowc_tr (m := q) (lowc_0 (c := q)) lowc_0 (Nat.le_refl q)) (Nat.le_refl q)
          generalize ow_setI (ow_setI (ow_setI s1 0 30 ((s1.1 0 30) - 1)) 0 29 (((ow_setI s1 0 30 ((s1.1 0 30) - 1)).1 0 29) - 1)) 0 24 (((ow_setI (ow_setI s1 0 30 ((s1.1 0 30) - 1)) 0 29 (((ow_setI s1 0 30 ((s1.1 0 30) - 1)).1 0 29) - 1)).1 0 24) + 1) = s5 at p3' hy3 hlo3 ⊢
          have hlow5 : lowc σ s5 c0 := lowc_tr (m := c0) (fun q hq => a4 q (by omega)) (hlo3 c0) (Nat.le_refl c0)
          have hSM5 : SM s5 c0 (c + po aa + po oa) (jO oa (jA aa V)) := SM_cg a5 (hlo3 _) (Nat.le_refl _)
          rw [ltE, p3'.2.2.2.2.2.1]
          cases hst1 : st with
          | nil =>
            rw [hst1] at p3'
            rw [if_pos (show nI ([] : List Nat).length = 0 from rfl)]
            dsimp only
            rw [if_pos is01_1, ltE, ltE, gIs, if_pos rfl, if_neg (show ¬ (1 : Int32) = 0 by decide)]
            dsimp only
            have p4 := M_setS (k := 31) (v := 1) p3' (by decide)
            refine ⟨ow_setI s5 0 31 1, c + po aa + po oa, my_tr hy3 (my_0 rfl), p4, by omega, by omega, by omega, by omega, lowc_tr (m := c0) hlow5 lowc_0 (Nat.le_refl _), SM_cg hSM5 (lowc_0 (c := c + po aa + po oa)) (Nat.le_refl _), ?_⟩
            rw [if_pos rfl, if_pos is01_0, bdS, cLP_eq, M_good p4, bdS, if_neg (by decide), gIs, if_pos rfl, if_neg (by decide)]
          | cons x r =>
            rw [hst1] at p3'
            rw [if_neg (show ¬ nI (x :: r).length = 0 from nI_ne0 (by rw [List.length_cons]; omega) (by rw [← hst1]; omega))]
            dsimp only
            rw [if_pos is01_0, ltE, ltE, gIs, if_pos rfl, if_pos rfl]
            dsimp only
            have p4 := M_setS (k := 31) (v := 0) p3' (by decide)
            obtain ⟨m, rfl⟩ : ∃ z, m = z + 1 := ⟨m - 1, by omega⟩
            refine ⟨ow_setI s5 0 31 0, c + po aa + po oa, my_tr hy3 (my_0 rfl), p4, by omega, by omega, by omega, by omega, lowc_tr (m := c0) hlow5 lowc_0 (Nat.le_refl _), SM_cg hSM5 (lowc_0 (c := c + po aa + po oa)) (Nat.le_refl _), ?_⟩
            rw [if_neg (by simp)]
            refine ⟨m + 1, ?_, by omega, by rw [gIs, if_pos rfl]⟩
            rw [← ends_J (a := 0) ow_FU (ow_setI s5 0 31 0) p4.2.2.1, fX10_ends]
            have key : ∀ (s6 : ow_S), fX10_ends_l0 ow_FU (ow_setI s5 0 31 0) = some ((), s6) → cLP (m + 1 + 1) 0 s6 = cJ59 (m + 1) 0 s6 := fun s6 hs6 => by
              have inv : ∀ (g : Nat) (s s' : ow_S), fX10_ends_l0 g s = some ((), s') → s'.1 0 26 = s.1 0 26 ∧ s'.1 0 31 = s.1 0 31 := by
                intro g
                induction g with
                | zero => intro s s' h; cases h
                | succ g ihg =>
                  intro s s' hg
                  rw [fX10_ends_l0] at hg
                  cases ht : fX10_top s with
                  | none => rw [ht] at hg; cases hg
                  | some q =>
                    have e := top_st ht
                    obtain ⟨q1, q2⟩ := q
                    have e' : q2 = s := e
                    subst e'
                    rw [ht, bdS] at hg
                    by_cases c33 : q1 = 33
                    · rw [if_pos c33] at hg
                      cases he : fX10_emit 2 0 q2 with
                      | none => rw [he] at hg; cases hg
                      | some z =>
                        obtain ⟨z1, z2⟩ := z
                        have e31 : z2.1 0 31 = q2.1 0 31 := by
                          unfold fX10_emit at he
                          cases hgd : fX10_isGood q2 with
                          | none => rw [hgd] at he; cases he
                          | some y =>
                            have ey : y.2 = q2 := by
                              unfold fX10_isGood at hgd
                              simp only [ow_lt, is01_0, is01_1, if_true] at hgd
                              split at hgd <;> (cases hgd; rfl)
                            obtain ⟨y1, y2⟩ := y
                            have ey' : y2 = q2 := ey
                            subst ey'
                            rw [hgd, bdS] at he
                            simp only [ow_lt] at he
                            split at he
                            · cases he; rfl
                            · split at he
                              · split at he
                                · cases he
                                  rw [gIs, if_neg (by decide), gIn _ (by decide), gIn _ (by decide)]
                                · cases he
                              · cases he
                        rw [he, bdS, ltE, ltE] at hg
                        obtain ⟨w1, w2⟩ := ihg _ _ hg
                        have e26 : z2.1 0 26 = q2.1 0 26 := emit_26 he
                        rw [gIs, if_neg (by decide), gIs, if_neg (by decide)] at w1 w2
                        exact ⟨by rw [w1, e26], by rw [w2, e31]⟩
                    · rw [if_neg c33] at hg
                      cases hg
                      exact ⟨rfl, rfl⟩
              obtain ⟨w1, w2⟩ := inv _ _ _ hs6
              have g26 : s6.1 0 26 = 0 := by rw [w1]; exact p4.2.2.1
              have g31 : s6.1 0 31 = 0 := by rw [w2, gIs, if_pos rfl]
              have hg : fX10_isGood s6 = some (1, s6) := by
                unfold fX10_isGood
                simp only [ow_lt, g26, if_true, is01_1]
              rw [cLP_eq, hg, bdS, if_neg (by decide), if_pos g31, if_pos rfl]
            cases he : fX10_ends_l0 ow_FU (ow_setI s5 0 31 0) with
            | none => rfl
            | some q =>
              obtain ⟨q1, q2⟩ := q
              rw [bdS, bdS, if_pos is01_0, bdS]
              exact key q2 he
        · rw [if_neg c41, if_neg (fun e => c41 (e41.mp e)), h.1]
          have hw : fX10_wrongs 1 (nI i) σ = some ((), ow_setI σ 0 26 (flt 1 i)) := M_wrongs (k := 1) h
          have hd := M_bad (k := 1) (i := i) (σ := σ) (by decide) (by decide) (by omega)
          rw [hw, bdS, if_pos is01_0, bdS, cLP_D hd]
          exact ⟨_, rfl, my_0 rfl, hd⟩
