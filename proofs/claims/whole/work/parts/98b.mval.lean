/-! the reference reads a value -/
def hcN (tb : Nat → Nat) (n i : Nat) : Nat := if i < n then tb i else 0
theorem hr_nI (tb : Nat → Nat) (n i : Nat) : hr tb n i = nI (hcN tb n i) := by
  unfold hr hcN
  by_cases c : i < n
  · rw [if_pos c, if_pos c]
  · rw [if_neg c, if_neg c]; rfl
theorem hc_lt {tb : Nat → Nat} {n i : Nat} (hb : ∀ i, tb i < 256) : hcN tb n i < 256 := by
  unfold hcN
  by_cases c : i < n
  · rw [if_pos c]; exact hb i
  · rw [if_neg c]; decide
theorem hc_cx {tb : Nat → Nat} {n i : Nat} (P : Nat → Prop) (h0 : ¬ P 0) (h1 : ¬ P 256) : P (hcN tb n i) ↔ P (cxN tb n i) := by
  unfold hcN cxN
  by_cases c : i < n
  · rw [if_pos c, if_pos c]
  · rw [if_neg c, if_neg c]; exact ⟨fun h => absurd h h0, fun h => absurd h h1⟩
theorem hc_eq {tb : Nat → Nat} {n i : Nat} (h : i < n) : hcN tb n i = cxN tb n i := by
  unfold hcN cxN
  rw [if_pos h, if_pos h]
theorem M_isTm {t : Nat} (ht : t < 256) (σ : ow_S) : fX10_isTimes (nI t) σ = some (bi (decide (isTm t)), σ) := by
  have e42 : (nI t = 42) ↔ t = 42 := nI_eq (b := 42) (by omega) (by decide)
  have e47 : (nI t = 47) ↔ t = 47 := nI_eq (b := 47) (by omega) (by decide)
  have e37 : (nI t = 37) ↔ t = 37 := nI_eq (b := 37) (by omega) (by decide)
  unfold fX10_isTimes
  simp only [ow_lt, e42, e47, e37]
  by_cases c1 : t = 42
  · rw [if_pos c1, decide_eq_true (show isTm t from Or.inl c1)]; rfl
  · rw [if_neg c1]
    by_cases c2 : t = 47
    · rw [if_pos c2, decide_eq_true (show isTm t from Or.inr (Or.inl c2))]; rfl
    · rw [if_neg c2]
      by_cases c3 : t = 37
      · rw [if_pos c3, decide_eq_true (show isTm t from Or.inr (Or.inr c3))]; rfl
      · rw [if_neg c3, decide_eq_false (show ¬ isTm t from fun h => by rcases h with h | h | h <;> omega)]; rfl
theorem M_isPl {t : Nat} (ht : t < 256) (σ : ow_S) : fX10_isPlus (nI t) σ = some (bi (decide (isPl t)), σ) := by
  have e43 : (nI t = 43) ↔ t = 43 := nI_eq (b := 43) (by omega) (by decide)
  have e45 : (nI t = 45) ↔ t = 45 := nI_eq (b := 45) (by omega) (by decide)
  unfold fX10_isPlus
  simp only [ow_lt, e43, e45]
  by_cases c1 : t = 43
  · rw [if_pos c1, decide_eq_true (show isPl t from Or.inl c1)]; rfl
  · rw [if_neg c1]
    by_cases c2 : t = 45
    · rw [if_pos c2, decide_eq_true (show isPl t from Or.inr c2)]; rfl
    · rw [if_neg c2, decide_eq_false (show ¬ isPl t from fun h => by rcases h with h | h <;> omega)]; rfl
theorem M_isSg {t : Nat} (ht : t < 256) (σ : ow_S) : fX10_isSign (nI t) σ = some (bi (decide (isSg t)), σ) := by
  have e60 : (nI t = 60) ↔ t = 60 := nI_eq (b := 60) (by omega) (by decide)
  have e62 : (nI t = 62) ↔ t = 62 := nI_eq (b := 62) (by omega) (by decide)
  have e61 : (nI t = 61) ↔ t = 61 := nI_eq (b := 61) (by omega) (by decide)
  unfold fX10_isSign
  simp only [ow_lt, e60, e62, e61]
  by_cases c1 : t = 60
  · rw [if_pos c1, decide_eq_true (show isSg t from Or.inl c1)]; rfl
  · rw [if_neg c1]
    by_cases c2 : t = 62
    · rw [if_pos c2, decide_eq_true (show isSg t from Or.inr (Or.inl c2))]; rfl
    · rw [if_neg c2]
      by_cases c3 : t = 61
      · rw [if_pos c3, decide_eq_true (show isSg t from Or.inr (Or.inr c3))]; rfl
      · rw [if_neg c3, decide_eq_false (show ¬ isSg t from fun h => by rcases h with h | h | h <;> omega)]; rfl
theorem isV_tab : (List.range 256).all (fun t => (fX10_isValue (nI t) ow_z).isSome && ((fX10_isValue (nI t) ow_z).map (fun x => x.1) == some (bi (decide (isLt t))))) = true := by decide +kernel
theorem isV_st (x : Int32) (σ σ' : ow_S) : (fX10_isValue x σ).map (fun y => y.1) = (fX10_isValue x σ').map (fun y => y.1) ∧ ∀ r, fX10_isValue x σ = some r → r.2 = σ := by
  unfold fX10_isValue
  simp only [ow_lt, is01_0, is01_1, if_true]
  constructor
  · repeat' split
    all_goals first | rfl | contradiction
  · intro r
    repeat' split
    all_goals (intro h; cases h; rfl)
theorem M_isLt {t : Nat} (ht : t < 256) (σ : ow_S) : fX10_isValue (nI t) σ = some (bi (decide (isLt t)), σ) := by
  have h := List.all_eq_true.mp isV_tab t (List.mem_range.mpr ht)
  rw [Bool.and_eq_true] at h
  have h2 := eq_of_beq h.2
  rw [(isV_st (nI t) ow_z σ).1] at h2
  cases hx : fX10_isValue (nI t) σ with
  | none => rw [hx] at h2; cases h2
  | some r =>
    rw [hx] at h2
    have e1 : r.1 = bi (decide (isLt t)) := Option.some.inj h2
    have e2 := (isV_st (nI t) σ σ).2 r hx
    obtain ⟨r1, r2⟩ := r
    have e1' : r1 = bi (decide (isLt t)) := e1
    have e2' : r2 = σ := e2
    rw [e1', e2']
theorem M_sees {tb : Nat → Nat} {n i c d : Nat} {st : List Nat} {σ : ow_S} (hb : ∀ i, tb i < 256) (h : MV tb n σ i c st d) (hn : n ≤ 200) (hi : i ≤ n) : fX10_seesDigit σ = some (bi (decide (isDg (cxN tb n i))), σ) := by
  have e : inR 48 57 (hr tb n i) = decide (isDg (cxN tb n i)) := by
    have := hc_lt (n := n) (i := i) hb
    rw [hr_nI, Bool.eq_iff_iff, inR_t, decide_eq_true_eq, nI_toInt (by omega), ← hc_cx (tb := tb) (n := n) (i := i) isDg (by decide) (by decide)]
    constructor
    · rintro ⟨a, b⟩; exact ⟨by omega, by omega⟩
    · rintro ⟨a, b⟩; exact ⟨by omega, by omega⟩
  unfold fX10_seesDigit
  rw [M_here h hn hi, bdS, M_lies (A := 48) (B := 57) (a := 48) (b := 57) rfl rfl, bdS, if_pos (bi_01 _), e]
theorem M_readsl {tb : Nat → Nat} {n c d fr : Nat} {st : List Nat} (hb : ∀ i, tb i < 256) (hn : n ≤ 200) {K : Int32 → ow_S → Option (Int32 × ow_S)} : ∀ (r v i k : Nat) (σ : ow_S) (fuel : Nat), MV tb n σ i c st d → i ≤ n → k + r = 5 → i = fr + k → r + 1 < fuel → ∃ σ' w, fX10_reads_l7 K (nI fr) fuel (nI v) σ = K w σ' ∧ my σ σ' ∧ (∀ q, lowc σ σ' q) ∧ σ'.1 0 31 = σ.1 0 31 ∧ σ'.1 0 32 = σ.1 0 32 ∧ (isDg (cxN tb n (dgs (cxN tb n) r v i).2) → NDV σ' (flt 2 (dgs (cxN tb n) r v i).2)) ∧ (¬ isDg (cxN tb n (dgs (cxN tb n) r v i).2) → MV tb n σ' (dgs (cxN tb n) r v i).2 c st d ∧ w = nI (dgs (cxN tb n) r v i).1) := by
  intro r
  induction r with
  | zero =>
    intro v i k σ fuel h hi hk hfr hf
    obtain ⟨fuel, rfl⟩ : ∃ z, fuel = z + 1 := ⟨fuel - 1, by omega⟩
    obtain ⟨fuel, rfl⟩ : ∃ z, fuel = z + 1 := ⟨fuel - 1, by omega⟩
    show ∃ σ' w, fX10_reads_l7 K (nI fr) (fuel + 1 + 1) (nI v) σ = K w σ' ∧ my σ σ' ∧ (∀ q, lowc σ σ' q) ∧ σ'.1 0 31 = σ.1 0 31 ∧ σ'.1 0 32 = σ.1 0 32 ∧ (isDg (cxN tb n i) → NDV σ' (flt 2 i)) ∧ (¬ isDg (cxN tb n i) → MV tb n σ' i c st d ∧ w = nI v)
    rw [fX10_reads_l7, M_good h, bdS, if_neg (by decide), M_sees hb h hn hi, bdS]
    by_cases cd : isDg (cxN tb n i)
    · have hlt : i < n := cx_lt (tb := tb) rfl (by have := cd.2; omega)
      have hw : fX10_wrongs 2 (nI i) σ = some ((), ow_setI σ 0 26 (flt 2 i)) := M_wrongs (k := 2) h
      have e24 : (ow_setI σ 0 26 (flt 2 i)).1 0 24 = nI i := by rw [gIs, if_neg (by decide)]; exact h.1
      have e25 : (ow_setI σ 0 26 (flt 2 i)).1 0 25 = nI n := by rw [gIs, if_neg (by decide)]; exact h.2.1
      have hh : fX10_here (ow_setI σ 0 26 (flt 2 i)) = some (nI (tb i), ow_setI σ 0 26 (flt 2 i)) := by
        unfold fX10_here
        simp only [ow_lt, e24, e25]
        rw [if_neg (nI_ge hlt (by omega)), if_pos (ow_in_nI (show i < 220 by omega) (by decide)), nI_clamp (by omega), gIn _ (by decide), h.2.2.2.2.2.2.2 i (by omega)]
      have hd : NDV (ow_setI (ow_setI σ 0 26 (flt 2 i)) 0 24 (nI (i + 1))) (flt 2 i) := ⟨by rw [gIs, if_neg (by decide), gIs, if_pos rfl], flt_neg (by decide) (by decide) (by omega)⟩
      rw [decide_eq_true cd, if_neg b1t, ltE, h.1, if_pos (show nI i = nI fr + 5 by rw [show (5 : Int32) = nI 5 from rfl, nI_add]; congr 1; omega), hw, bdS]
      dsimp only
      rw [hh, bdS, ltE, e24, nI_1, ltE, fX10_reads_l7, M_goodD hd, bdS, if_pos rfl]
      exact ⟨_, _, rfl, my_tr (my_0 rfl) (my_0 rfl), fun q => lowc_tr lowc_0 (lowc_0 (c := q)) (Nat.le_refl q), by rw [gIs, if_neg (by decide), gIs, if_neg (by decide)], by rw [gIs, if_neg (by decide), gIs, if_neg (by decide)], fun _ => hd, fun hnd => absurd cd hnd⟩
    · rw [decide_eq_false cd, if_pos b0f]
      exact ⟨σ, nI v, rfl, my_rf, fun q => lowc_rf, rfl, rfl, fun hd => absurd hd cd, fun _ => ⟨h, rfl⟩⟩
  | succ r ih =>
    intro v i k σ fuel h hi hk hfr hf
    obtain ⟨fuel, rfl⟩ : ∃ z, fuel = z + 1 := ⟨fuel - 1, by omega⟩
    have hdg : dgs (cxN tb n) (r + 1) v i = if isDg (cxN tb n i) then dgs (cxN tb n) r (10 * v + (cxN tb n i - 48)) (i + 1) else (v, i) := rfl
    rw [hdg, fX10_reads_l7, M_good h, bdS, if_neg (by decide), M_sees hb h hn hi, bdS]
    by_cases cd : isDg (cxN tb n i)
    · have hlt : i < n := cx_lt (tb := tb) rfl (by have := cd.2; omega)
      have hcx : cxN tb n i = tb i := by unfold cxN; rw [if_pos hlt]
      have hhr : hr tb n i = nI (tb i) := by unfold hr; rw [if_pos hlt]
      have e : (10 * nI v + nI (tb i)) - 48 = nI (10 * v + (tb i - 48)) := by
        have := cd.1
        rw [hcx] at this
        rw [show (10 : Int32) = nI 10 from rfl, pk_mul, nI_add, show (48 : Int32) = nI 48 from rfl, pk_sub (by omega)]
        congr 1
        omega
      rw [decide_eq_true cd, if_neg b1t, if_pos cd, ltE, h.1, if_neg (show ¬ nI i = nI fr + 5 by rw [show (5 : Int32) = nI 5 from rfl, nI_add]; exact fun e => by have := nI_inj (by omega) (by omega) e; omega)]
      dsimp only
      rw [M_here h hn hi, bdS, hhr, e, ltE, h.1, nI_1, ltE, hcx]
      obtain ⟨s1, w, q1, q2, q3, q4, q5, q6, q7⟩ := ih (10 * v + (tb i - 48)) (i + 1) (k + 1) (ow_setI σ 0 24 (nI (i + 1))) fuel (M_go h) (by omega) (by omega) (by omega) (by omega)
      exact ⟨s1, w, q1, my_tr (my_0 rfl) q2, fun q => lowc_tr lowc_0 (q3 q) (Nat.le_refl q), by rw [q4, gIs, if_neg (by decide)], by rw [q5, gIs, if_neg (by decide)], q6, q7⟩
    · rw [decide_eq_false cd, if_pos b0f, if_neg cd]
      exact ⟨σ, nI v, rfl, my_rf, fun q => lowc_rf, rfl, rfl, fun hd => absurd hd cd, fun _ => ⟨h, rfl⟩⟩
/-! the loop of a value -/
def vKF (s6 : ow_S) : Option (Unit × ow_S) := ow_bd (fX10_isGood s6) (fun r8 s7 => if r8 = 0 then (some ((), s7)) else (ow_bd (fX10_seesDigit s7) (fun r10 s9 => ow_lt (fun  (s11 : ow_S) => some ((), s11)) (fun j91 => if r10 = 0 then (ow_bd (fX10_here s9) (fun r13 s12 => ow_bd (fX10_isValue r13 s12) (fun r15 s14 => if r15 = 0 then (ow_bd (fX10_wrongs 1 (s14.1 0 24) s14) (fun _ s16 => j91  s16)) else (ow_bd (fX10_here s14) (fun r18 s17 => ow_bd (fX10_emit 1 r18 s17) (fun _ s19 => ow_lt (ow_setI s19 0 24 ((s19.1 0 24) + 1)) (fun s20 => j91  s20))))))) else (ow_bd (fX10_reads s9) (fun r22 s21 => ow_bd (fX10_emit 0 r22 s21) (fun _ s23 => j91  s23)))))))
def vKV (s14 : ow_S) : Option (Unit × ow_S) := ow_bd (fX10_isGood s14) (fun r16 s15 => ow_lt (fun  (s17 : ow_S) => some ((), s17)) (fun j82 => if r16 = 0 then (j82  s15) else (ow_bd (fX10_top s15) (fun r19 s18 => if r19 = 91 then (ow_bd (fX10_wrongs 1 (s18.1 0 24) s18) (fun _ s20 => j82  s20)) else (j82  s18)))))
def vLP (m : Nat) (a : Int32) (s : ow_S) : Option (Unit × ow_S) := fX10_value_l7 vKV m a s
def vCT (m : Nat) (r : Int32) (s : ow_S) : Option (Unit × ow_S) := if r = 0 then vLP m 0 s else vLP m 1 s
def vJ29 (m : Nat) (s4 : ow_S) : Option (Unit × ow_S) := ow_bd (fX10_isGood (ow_setI s4 0 32 0)) (fun r7 s6 => if r7 = 0 then vLP m 0 s6 else (ow_bd (fX10_stays s6) (fun r12 s11 => vCT m r12 s11)))
theorem vLP_eq (m : Nat) (a : Int32) (s : ow_S) : vLP (m + 1) a s = if a = 0 then vKV s else ow_bd (fX10_isGood s) (fun r3 s2 => if r3 = 0 then vKV s2 else (if (s2.1 0 32) = 0 then ow_bd (fX10_factor s2) (fun _ s13 => vJ29 m s13) else vJ29 m s2)) := by
  unfold vLP
  rw [fX10_value_l7]
  rfl
def vFL (f m : Nat) (s : ow_S) : Option (Unit × ow_S) := ow_bd (fX10_factor_l0 vKF f s) (fun _ s13 => vJ29 m s13)
def vY (x : Int32) (s12 : ow_S) : Option (Int32 × ow_S) := if x = 93 then (ow_bd (fX10_top s12) (fun r14 s13 => if r14 = 91 then (ow_lt (ow_setI s13 0 30 ((s13.1 0 30) - 1)) (fun s15 => ow_lt (ow_setI s15 0 29 ((s15.1 0 29) - 1)) (fun s16 => ow_lt (ow_setI s16 0 24 ((s16.1 0 24) + 1)) (fun s17 => if ow_is01 1 = true then ow_lt (ow_setI s17 0 32 1) (fun s18 => if ow_is01 1 = true then some (1, s18) else none) else none)))) else (ow_bd (fX10_wrongs 1 (s13.1 0 24) s13) (fun _ s19 => if ow_is01 0 = true then some (0, s19) else none)))) else (if ow_is01 0 = true then some (0, s12) else none)
def vYK (m : Nat) (x : Int32) (s12 : ow_S) : Option (Unit × ow_S) := ow_bd (vY x s12) (fun r12 s11 => vCT m r12 s11)
theorem LP_0 {m : Nat} {s : ow_S} : vLP (m + 1) 0 s = vKV s := by rw [vLP_eq, if_pos rfl]
theorem KV_D {F : Int32} {s : ow_S} (h : NDV s F) : vKV s = some ((), s) := by
  unfold vKV
  rw [M_goodD h, bdS, ltE, if_pos rfl]
theorem J29_D {m : Nat} {F : Int32} {s : ow_S} (h : NDV s F) : vJ29 (m + 1) s = some ((), ow_setI s 0 32 0) := by
  have hd : NDV (ow_setI s 0 32 0) F := ⟨by rw [gIs, if_neg (by decide)]; exact h.1, h.2⟩
  unfold vJ29
  rw [M_goodD hd, bdS, if_pos rfl, LP_0, KV_D hd]
theorem LP_1 {tb : Nat → Nat} {n i c d m : Nat} {st : List Nat} {s : ow_S} (h : MV tb n s i c st d) (h32 : s.1 0 32 = 0) : vLP (m + 1) 1 s = vFL ow_FU m s := by
  rw [vLP_eq, if_neg (by decide), M_good h, bdS, if_neg (by decide), if_pos h32]
  unfold vFL
  rw [fX10_factor]
  rfl
abbrev MOF (σ : ow_S) (F : Int32) (o : Option (Unit × ow_S)) : Prop := ∃ σ', o = some ((), σ') ∧ my σ σ' ∧ NDV σ' F
abbrev SM (σ : ow_S) (a b : Nat) (V : aV) : Prop := sgM (σ.1 16) (σ.1 17) a b V
theorem SM_cg {σ σ' : ow_S} {a b k : Nat} {V : aV} (h : SM σ a b V) (e : lowc σ σ' k) (hb : b ≤ k) : SM σ' a b V := sgM_cg h (fun q x y => e q (by omega))
abbrev nt (st : List Nat) : Prop := ¬ isTm (tp0 st) ∧ ¬ isPl (tp0 st)
abbrev ltt (st : List Nat) : Prop := ∀ x, x ∈ st → x < 256
/-- a factor is read: then what stands behind it -/
def MFa (tb : Nat → Nat) (n d : Nat) (p : Nat → pR) : Prop := ∀ i c st σ f m, MV tb n σ i c st d → i ≤ n → c ≤ i → st.length ≤ i → ltt st → σ.1 0 32 = 0 → n < i + f → n < i + m → match p i with
  | .inl F => MOF σ F (vFL f m σ)
  | .inr (j, V) => ∃ σ' c' m', vFL f m σ = vJ29 m' σ' ∧ my σ σ' ∧ MV tb n σ' j c' st d ∧ i < j ∧ j ≤ n ∧ c ≤ c' ∧ c' + i ≤ c + j ∧ lowc σ σ' c ∧ SM σ' c c' V ∧ n < j + m' ∧ σ'.1 0 31 = σ.1 0 31
def MSu (tb : Nat → Nat) (n d : Nat) (p : Nat → pR) : Prop := ∀ i c st σ f m, MV tb n σ i c st d → i ≤ n → c ≤ i → st.length ≤ i → nt st → ltt st → σ.1 0 32 = 0 → n < i + f → n < i + m → match p i with
  | .inl F => MOF σ F (vFL f m σ)
  | .inr (j, V) => ∃ σ' c' m', vFL f m σ = vYK m' (hr tb n j) σ' ∧ my σ σ' ∧ MV tb n σ' j c' st d ∧ i < j ∧ j ≤ n ∧ c ≤ c' ∧ c' + i ≤ c + j ∧ lowc σ σ' c ∧ SM σ' c c' V ∧ n < j + m' ∧ σ'.1 0 31 = σ.1 0 31
theorem tp_lt {st : List Nat} (h : ltt st) : tp0 st < 256 := by
  cases st with
  | nil => decide
  | cons x r => exact h x List.mem_cons_self
theorem sums_pop {tb : Nat → Nat} {n i c d x f : Nat} {r : List Nat} {a1 : Int32} {σ : ow_S} {K : ow_S → Option (Unit × ow_S)} (h : MV tb n σ i c (x :: r) d) (hx : x < 256) (hl : r.length < 240) (hc : c < 200) (hop : isTm x ∨ (¬ a1 = 0 ∧ isPl x)) : ∃ σ', fX10_sums_l0 K a1 (f + 1) σ = fX10_sums_l0 K a1 f σ' ∧ MV tb n σ' i (c + 1) r d ∧ my σ σ' ∧ lowc σ σ' c ∧ σ'.1 16 c = nI x ∧ σ'.1 0 31 = σ.1 0 31 ∧ σ'.1 0 32 = σ.1 0 32 := by
  have ht := M_top h (by simp only [List.length_cons]; omega)
  have ht' : fX10_top σ = some (nI x, σ) := ht
  have hv := M_emitV (x0 := nI x) (x1 := 0) h
  have hj : ow_bd (fX10_top σ) (fun r7 s6 => ow_bd (fX10_emit r7 0 s6) (fun _ s8 => ow_lt (ow_setI s8 0 30 ((s8.1 0 30) - 1)) (fun s9 => fX10_sums_l0 K a1 f s9))) = fX10_sums_l0 K a1 f (ow_setI (ow_setI (ow_setI (ow_setI σ 16 c (nI x)) 17 c 0) 0 28 (nI (c + 1))) 0 30 (((ow_setI (ow_setI (ow_setI σ 16 c (nI x)) 17 c 0) 0 28 (nI (c + 1))).1 0 30) - 1)) := by
    rw [ht', bdS, M_emit h hc, bdS, ltE]
  refine ⟨_, ?_, M_pop hv, my_tr my_emit (my_0 rfl), lowc_tr lowc_emit (lowc_0 (c := c)) (Nat.le_refl c), by rw [gIn _ (by decide), (M_emitC σ c c _ _ _).1, if_pos rfl], by rw [gIs, if_neg (by decide), gIs, if_neg (by decide), gIn _ (by decide), gIn _ (by decide)], by rw [gIs, if_neg (by decide), gIs, if_neg (by decide), gIn _ (by decide), gIn _ (by decide)]⟩
  rw [fX10_sums_l0, ht', bdS, M_isTm hx, bdS, ltE]
  by_cases c1 : isTm x
  · rw [decide_eq_true c1, if_neg b1t]
    exact hj
  · obtain ⟨ha, hp⟩ := hop.resolve_left c1
    rw [decide_eq_false c1, if_pos b0f, if_neg ha, ht', bdS, M_isPl hx, bdS, decide_eq_true hp, if_neg b1t]
    exact hj
theorem sums_stop {tb : Nat → Nat} {n i c d f : Nat} {st : List Nat} {a1 : Int32} {σ : ow_S} {K : ow_S → Option (Unit × ow_S)} (h : MV tb n σ i c st d) (hx : tp0 st < 256) (hl : st.length ≤ 240) (h1 : ¬ isTm (tp0 st)) (h2 : a1 = 0 ∨ ¬ isPl (tp0 st)) : fX10_sums_l0 K a1 (f + 1) σ = K σ := by
  have ht := M_top h hl
  rw [fX10_sums_l0, ht, bdS, M_isTm hx, bdS, decide_eq_false h1, ltE, if_pos b0f]
  by_cases c : a1 = 0
  · rw [if_pos c]
  · rw [if_neg c, ht, bdS, M_isPl hx, bdS, decide_eq_false (h2.resolve_left c), if_pos b0f]
def pdS (acc : Option (aV × Nat)) : List Nat := match acc with
  | none => []
  | some (_, op) => [op]
theorem pdS_len (acc : Option (aV × Nat)) : (pdS acc).length = pn acc := by cases acc <;> rfl
def mgs (σ : ow_S) (b c : Nat) (acc : Option (aV × Nat)) (F : aV) : Prop := match acc with
  | none => SM σ b c F
  | some (A, _) => ∃ b2, b2 ≤ c ∧ SM σ b b2 A ∧ SM σ b2 c F
theorem mgs_cg {σ σ' : ow_S} {b c k : Nat} {acc : Option (aV × Nat)} {F : aV} (h : mgs σ b c acc F) (e : lowc σ σ' k) (hc : c ≤ k) : mgs σ' b c acc F := by
  cases acc with
  | none => exact SM_cg h e hc
  | some x =>
    obtain ⟨b2, h0, h1, h2⟩ := h
    exact ⟨b2, h0, SM_cg h1 e (by omega), SM_cg h2 e hc⟩
theorem M_popO {tb : Nat → Nat} {n i b c d f : Nat} {rest : List Nat} {a1 : Int32} {acc : Option (aV × Nat)} {F : aV} {σ : ow_S} {K : ow_S → Option (Unit × ow_S)} (h : MV tb n σ i c (pdS acc ++ rest) d) (hl : rest.length < 240) (hc : c + pn acc ≤ 200) (hop : ∀ A op, acc = some (A, op) → op < 256 ∧ (isTm op ∨ (¬ a1 = 0 ∧ isPl op))) (hs : mgs σ b c acc F) : ∃ σ' f', fX10_sums_l0 K a1 (f + 1) σ = fX10_sums_l0 K a1 f' σ' ∧ f ≤ f' ∧ MV tb n σ' i (c + pn acc) rest d ∧ my σ σ' ∧ lowc σ σ' c ∧ SM σ' b (c + pn acc) (jn acc F) ∧ σ'.1 0 31 = σ.1 0 31 ∧ σ'.1 0 32 = σ.1 0 32 := by
  cases acc with
  | none => exact ⟨σ, f + 1, rfl, by omega, h, my_rf, lowc_rf, hs, rfl, rfl⟩
  | some x =>
    obtain ⟨A, op⟩ := x
    obtain ⟨o1, o2⟩ := hop A op rfl
    simp only [pn] at hc
    obtain ⟨s1, a1', a2, a3, a4, a5, a6, a7⟩ := sums_pop (K := K) (f := f) h o1 hl (by omega) o2
    obtain ⟨b2, h0, h1, h2⟩ := hs
    refine ⟨s1, f, a1', Nat.le_refl _, a2, a3, a4, ?_, a6, a7⟩
    refine sgM_bin (SM_cg h1 a4 h0) (SM_cg h2 a4 (Nat.le_refl _)) a5 ?_
    rcases o2 with o | ⟨-, o⟩
    · exact Or.inl o
    · exact Or.inr (Or.inl o)
