/-! the class reads a law -/
def XCO (tb : Nat → Nat) (n : Nat) (σ : ow_S) (i : Nat) (cls : List aC) (r : qR) (o : Option (Unit × ow_S)) : Prop := match r with
  | .inl F => ∃ σ', o = some ((), σ') ∧ xz σ σ' ∧ DV σ' F
  | .inr (j, cl) => ∃ σ' c', o = some ((), σ') ∧ xz σ σ' ∧ XV tb n σ' j c' ∧ i < j ∧ j ≤ n ∧ c' ≤ j ∧ cls.length < 14 ∧ XCl σ' (cls ++ [cl]) c'
theorem XCl_snoc {σ σ' : ow_S} {cls : List aC} {cl : aC} {c c' b m : Nat} (h : XCl σ cls c) (hc : c ≤ c') (h6 : σ'.1 17 6 = nI (cls.length + 1)) (hlow : ∀ q, q < c → σ'.1 18 q = σ.1 18 q) (h19 : ∀ q, σ'.1 19 q = if q = cls.length then cl.1 else σ.1 19 q) (h20 : ∀ q, σ'.1 20 q = if q = cls.length then nI b else σ.1 20 q) (h21 : ∀ q, σ'.1 21 q = if q = cls.length then nI m else σ.1 21 q) (h22 : ∀ q, σ'.1 22 q = if q = cls.length then nI c' else σ.1 22 q) (hbm : b ≤ m) (hmc : m ≤ c') (hE : cl.1 ≠ 110 → SE (σ'.1 18) b m 40 cl.2.1) (hC : SC (σ'.1 18) m c' 40 cl.2.2) : XCl σ' (cls ++ [cl]) c' := by
  refine ⟨by rw [h6, List.length_append]; rfl, fun k cl2 hk => ?_⟩
  by_cases e : k = cls.length
  · subst e
    rw [List.getElem?_append_right (Nat.le_refl _), Nat.sub_self] at hk
    cases hk
    exact ⟨b, m, c', hbm, hmc, Nat.le_refl _, by rw [h19, if_pos rfl], by rw [h20, if_pos rfl], by rw [h21, if_pos rfl], by rw [h22, if_pos rfl], hE, hC⟩
  · have hlt : k < cls.length := by
      have := (List.getElem?_eq_some_iff.mp hk).1
      rw [List.length_append] at this
      simp only [List.length_cons, List.length_nil] at this
      omega
    rw [List.getElem?_append_left hlt] at hk
    obtain ⟨b2, m2, e2, x1, x2, x3, x4, x5, x6, x7, x8, x9⟩ := h.2 k cl2 hk
    exact ⟨b2, m2, e2, x1, x2, by omega, by rw [h19, if_neg e]; exact x4, by rw [h20, if_neg e]; exact x5, by rw [h21, if_neg e]; exact x6, by rw [h22, if_neg e]; exact x7, fun hn => (x8 hn).cg (fun q _ y => hlow q (by omega)), x9.cg (fun q _ y => hlow q (by omega))⟩
theorem X_clause {tb : Nat → Nat} {n i c : Nat} {σ : ow_S} {cls : List aC} (hb : ∀ i, tb i < 256) (hn : n ≤ 200) (h : XV tb n σ i c) (hi : i ≤ n) (hc : c ≤ i) (hC : XCl σ cls c) (hl : cls.length ≤ 14) : XCO tb n σ i cls (pCl (cxN tb n) cls.length i) (fX6_readClause σ) := by
  have e110 := nx_eq (tb := tb) (n := n) (i := i) (L := 110) (l := 110) hb rfl (by decide)
  have e114 := nx_eq (tb := tb) (n := n) (i := i) (L := 114) (l := 114) hb rfl (by decide)
  have e115 := nx_eq (tb := tb) (n := n) (i := i) (L := 115) (l := 115) hb rfl (by decide)
  rw [fX6_readClause, X_next h hn hi, bdS, if_pos h.2.2.1, ltE, ltE]
  unfold pCl
  by_cases cx : cxN tb n i = 110 ∨ cxN tb n i = 114 ∨ cxN tb n i = 115
  · have hlt : i < n := cx_lt (tb := tb) rfl (by rcases cx with h | h | h <;> omega)
    rw [if_pos cx]
    have key : ∀ {α : Type} (A B : α), (if nx tb n i = 110 then A else if nx tb n i = 114 then A else if nx tb n i = 115 then A else B) = A := by
      intro α A B
      rcases cx with h | h | h
      · rw [if_pos (e110.mpr h)]
      · rw [if_neg (fun e => by have := e110.mp e; omega), if_pos (e114.mpr h)]
      · rw [if_neg (fun e => by have := e110.mp e; omega), if_neg (fun e => by have := e114.mp e; omega), if_pos (e115.mpr h)]
    rw [key]
    dsimp only
    rw [X_full hC.1 hl, bdS]
    by_cases c14 : cls.length = 14
    · have hf : fX6_fail 4 σ = some ((), ow_setI σ 15 4 (flt 4 i)) := X_fail (k := 4) h
      rw [if_pos c14, decide_eq_true c14, if_neg b1t, hf, bdS]
      exact ⟨_, rfl, xq_z (xq_15 (by decide)), X_failed h (by decide) (by decide) (by omega) (by omega)⟩
    · have hm : cls.length < 14 := by omega
      have hg := X_go h (i + 1)
      rw [if_neg c14, decide_eq_false c14, if_pos b0f, ltE, h.1, nI_1, X_begin (m := cls.length) (c := c) (by rw [gIn _ (by decide)]; exact hC.1) hm hg.2.2.2.2, bdS, ltE]
      have h2 : XV tb n (ow_setI (ow_setI (ow_setI σ 15 3 (nI (i + 1))) 19 cls.length (nx tb n i)) 20 cls.length (nI c)) (i + 1) c := XV_fr (XV_fr hg (by decide)) (by decide)
      have z2 : xz σ (ow_setI (ow_setI (ow_setI σ 15 3 (nI (i + 1))) 19 cls.length (nx tb n i)) 20 cls.length (nI c)) := xz_tr (xq_z (xq_15 (by decide))) (xz_tr (xz_set (by decide) (by decide)) (xz_set (by decide) (by decide)))
      have h62 : (ow_setI (ow_setI (ow_setI σ 15 3 (nI (i + 1))) 19 cls.length (nx tb n i)) 20 cls.length (nI c)).1 17 6 = nI cls.length := by rw [gIn _ (by decide), gIn _ (by decide), gIn _ (by decide)]; exact hC.1
      have s18 : (ow_setI (ow_setI (ow_setI σ 15 3 (nI (i + 1))) 19 cls.length (nx tb n i)) 20 cls.length (nI c)).1 18 = σ.1 18 := by rw [gIc _ _ _ _ _ (by decide), gIc _ _ _ _ _ (by decide), gIc _ _ _ _ _ (by decide)]
      have s19 : ∀ q, (ow_setI (ow_setI (ow_setI σ 15 3 (nI (i + 1))) 19 cls.length (nx tb n i)) 20 cls.length (nI c)).1 19 q = if q = cls.length then nx tb n i else σ.1 19 q := fun q => by
        rw [gIn _ (by decide), gIs]
        by_cases e : q = cls.length
        · rw [if_pos e, if_pos e]
        · rw [if_neg e, if_neg e, gIn _ (by decide)]
      have s20 : ∀ q, (ow_setI (ow_setI (ow_setI σ 15 3 (nI (i + 1))) 19 cls.length (nx tb n i)) 20 cls.length (nI c)).1 20 q = if q = cls.length then nI c else σ.1 20 q := fun q => by
        rw [gIs]
        by_cases e : q = cls.length
        · rw [if_pos e, if_pos e]
        · rw [if_neg e, if_neg e, gIn _ (by decide), gIn _ (by decide)]
      have s21 : (ow_setI (ow_setI (ow_setI σ 15 3 (nI (i + 1))) 19 cls.length (nx tb n i)) 20 cls.length (nI c)).1 21 = σ.1 21 := by rw [gIc _ _ _ _ _ (by decide), gIc _ _ _ _ _ (by decide), gIc _ _ _ _ _ (by decide)]
      have s22 : (ow_setI (ow_setI (ow_setI σ 15 3 (nI (i + 1))) 19 cls.length (nx tb n i)) 20 cls.length (nI c)).1 22 = σ.1 22 := by rw [gIc _ _ _ _ _ (by decide), gIc _ _ _ _ _ (by decide), gIc _ _ _ _ _ (by decide)]
      generalize hs3 : ow_setI (ow_setI (ow_setI σ 15 3 (nI (i + 1))) 19 cls.length (nx tb n i)) 20 cls.length (nI c) = s3 at h2 z2 h62 s18 s19 s20 s21 s22
      by_cases c110 : cxN tb n i = 110
      · rw [if_pos c110, if_pos (e110.mpr c110)]
        dsimp only
        have hI := X_condC hb hn h2 (by omega) (by omega) h62 hm
        cases hr : pCond (cxN tb n) (i + 1) with
        | inl F =>
          rw [hr] at hI
          obtain ⟨s4, a1, a2, a3⟩ := hI
          exact ⟨s4, a1, xz_tr z2 a2, a3⟩
        | inr r =>
          obtain ⟨k, C⟩ := r
          rw [hr] at hI
          obtain ⟨s4, c', a1, a2, a3, a4, a5, a6, a7, a8, a9, a10, a11, a12, a13, a14⟩ := hI
          refine ⟨s4, c', a1, xz_tr z2 a2, a3, by omega, a5, a7, hm, XCl_snoc (b := c) (m := c) hC a6 a13 (fun q hq => by rw [a8 q hq, s18]) (fun q => ?_) (fun q => by rw [a10, s20]) (fun q => by rw [a11, s21]) (fun q => by rw [a12, s22]) (Nat.le_refl _) a6 (fun hne => absurd rfl hne) a14⟩
          rw [a9, s19, e110.mpr c110]
          rfl
      · rw [if_neg c110, if_neg (fun e => c110 (e110.mp e))]
        have hI := X_pE hb hn 6 9 0 rfl (by decide) (i + 1) c s3 h2 (by omega) (by omega)
        cases hr : pE (cxN tb n) 6 (i + 1) with
        | inl F =>
          rw [hr] at hI
          obtain ⟨s4, a1, a2, a3⟩ := hI
          have a1' : fTX6_readSum 0 s3 = some ((), s4) := a1
          have h64 : s4.1 17 6 = nI cls.length := by rw [a2.2.2.2 6 (by decide)]; exact h62
          obtain ⟨s5, b1, b2, b3⟩ := X_condD a3 h64 hm
          rw [a1', bdS]
          dsimp only
          exact ⟨s5, b1, xz_tr z2 (xz_tr (xq_z a2) b2), b3⟩
        | inr r =>
          obtain ⟨j, E⟩ := r
          rw [hr] at hI
          obtain ⟨hij, s4, c4, a1, a2, a3, a4, a5, a6, a7, a8⟩ := hI
          have a1' : fTX6_readSum 0 s3 = some ((), s4) := a1
          have h64 : s4.1 17 6 = nI cls.length := by rw [a2.2.2.2 6 (by decide)]; exact h62
          rw [a1', bdS]
          dsimp only
          have hI2 := X_condC hb hn a3 a4 (by omega) h64 hm
          cases hr2 : pCond (cxN tb n) j with
          | inl F =>
            rw [hr2] at hI2
            obtain ⟨s5, b1, b2, b3⟩ := hI2
            exact ⟨s5, b1, xz_tr z2 (xz_tr (xq_z a2) b2), b3⟩
          | inr r =>
            obtain ⟨k, C⟩ := r
            rw [hr2] at hI2
            obtain ⟨s5, c', b1, b2, b3, b4, b5, b6, b7, b8, b9, b10, b11, b12, b13, b14⟩ := hI2
            refine ⟨s5, c', b1, xz_tr z2 (xz_tr (xq_z a2) b2), b3, by omega, b5, b7, hm, XCl_snoc (b := c) (m := c4) hC (by omega) b13 (fun q hq => by rw [b8 q (by omega), a7 q hq, s18]) (fun q => ?_) (fun q => by rw [b10, a2.2.1 20 (by decide) (by decide) (by decide), s20]) (fun q => by rw [b11, a2.2.1 21 (by decide) (by decide) (by decide), s21]) (fun q => by rw [b12, a2.2.1 22 (by decide) (by decide) (by decide), s22]) a5 b6 (fun _ => (a8.le (by decide)).cg (fun q x y => b8 q y)) b14⟩
            rw [b9, a2.2.1 19 (by decide) (by decide) (by decide), s19]
            have hnx : nx tb n i = nI (cxN tb n i) := by unfold nx cxN; rw [if_pos hlt, if_pos hlt]
            rw [hnx]
  · rw [if_neg cx, if_neg (fun e => cx (Or.inl (e110.mp e))), if_neg (fun e => cx (Or.inr (Or.inl (e114.mp e)))), if_neg (fun e => cx (Or.inr (Or.inr (e115.mp e))))]
    have hf : fX6_fail 1 σ = some ((), ow_setI σ 15 4 (flt 1 i)) := X_fail (k := 1) h
    rw [hf, bdS]
    exact ⟨_, rfl, xq_z (xq_15 (by decide)), X_failed h (by decide) (by decide) (by omega) (by omega)⟩
theorem X_clauseD {F : Int32} {σ : ow_S} (h : DV σ F) : fX6_readClause σ = some ((), σ) := by
  obtain ⟨r, hr⟩ := X_nextT σ
  rw [fX6_readClause, hr, bdS, if_neg (by rw [h.1]; exact h.2.1)]
/-- the clauses one behind another -/
theorem X_clauses {tb : Nat → Nat} {n : Nat} (hb : ∀ i, tb i < 256) (hn : n ≤ 200) {K : ow_S → Option (Int32 × ow_S)} : ∀ (k : Nat) (cls : List aC) (i c fuel : Nat) (σ : ow_S), XV tb n σ i c → i ≤ n → c ≤ i → XCl σ cls c → cls.length ≤ 14 → n < i + k → 16 < fuel + cls.length → (match pLaw (cxN tb n) n k cls i with
    | .inl F => ∃ σ', ow_bd (fX6_readClause σ) (fun _ s10 => fX6_read_1_l61 K fuel (nI cls.length) s10) = K σ' ∧ xz σ σ' ∧ DV σ' F
    | .inr cls2 => ∃ σ' j c', ow_bd (fX6_readClause σ) (fun _ s10 => fX6_read_1_l61 K fuel (nI cls.length) s10) = K σ' ∧ xz σ σ' ∧ XV tb n σ' j c' ∧ c' ≤ 200 ∧ XCl σ' cls2 c' ∧ cls2.length ≤ 14 ∧ 1 ≤ cls2.length) := by
  intro k
  induction k with
  | zero => intros; omega
  | succ k ih =>
    intro cls i c fuel σ h hi hc hC hl hk hf
    obtain ⟨fuel, rfl⟩ : ∃ z, fuel = z + 1 := ⟨fuel - 1, by omega⟩
    have hI := X_clause hb hn h hi hc hC hl
    have dead : ∀ (s1 : ow_S) (F : Int32) (m fu : Nat), DV s1 F → fX6_read_1_l61 K (fu + 1) (nI m) s1 = K s1 := by
      intro s1 F m fu hd
      rw [fX6_read_1_l61, if_neg (show ¬ s1.1 15 4 = 0 by rw [hd.1]; exact hd.2.1)]
      split <;> rfl
    unfold pLaw
    cases hr : pCl (cxN tb n) cls.length i with
    | inl F =>
      rw [hr] at hI
      obtain ⟨s1, a1, a2, a3⟩ := hI
      exact ⟨s1, by rw [a1, bdS, dead s1 F _ _ a3], a2, a3⟩
    | inr r =>
      obtain ⟨j, cl⟩ := r
      rw [hr] at hI
      obtain ⟨s1, c', a1, a2, a3, a4, a5, a6, a7, a8⟩ := hI
      rw [a1, bdS, fX6_read_1_l61, if_neg (show ¬ (14 : Int32) ≤ nI cls.length from nI_ge (b := 14) a7 (by decide)), if_pos a3.2.2.1, a3.2.1, a3.1]
      dsimp only
      by_cases cj : j < n
      · rw [if_pos cj, if_neg (nI_ge cj (by omega))]
        have ht := X_tak (L := 59) hb a3 hn a5 (by decide)
        have ht' : fX6_take 59 s1 = _ := ht
        rw [ht', bdS]
        by_cases c59 : cxN tb n j = 59
        · rw [if_pos c59, if_pos c59]
          have hC2 : XCl (ow_setI s1 15 3 (nI (j + 1))) (cls ++ [cl]) c' := by
            unfold XCl
            rw [gIc _ _ _ _ _ (show 17 ≠ 15 by decide), gIc _ _ _ _ _ (show 18 ≠ 15 by decide), gIc _ _ _ _ _ (show 19 ≠ 15 by decide), gIc _ _ _ _ _ (show 20 ≠ 15 by decide), gIc _ _ _ _ _ (show 21 ≠ 15 by decide), gIc _ _ _ _ _ (show 22 ≠ 15 by decide)]
            exact a8
          have hlen : (cls ++ [cl]).length = cls.length + 1 := by rw [List.length_append]; rfl
          have := ih (cls ++ [cl]) (j + 1) c' fuel _ (X_go a3 (j + 1)) (by omega) (by omega) hC2 (by rw [hlen]; omega) (by omega) (by rw [hlen]; omega)
          rw [hlen] at this
          have ef : (ow_bd (fX6_readClause (ow_setI s1 15 3 (nI (j + 1)))) fun _ s12 => ow_lt (nI cls.length + 1) fun v13 => fX6_read_1_l61 K fuel v13 s12) = ow_bd (fX6_readClause (ow_setI s1 15 3 (nI (j + 1)))) (fun _ s10 => fX6_read_1_l61 K fuel (nI (cls.length + 1)) s10) := by
            rw [nI_1]
          rw [ef]
          revert this
          cases pLaw (cxN tb n) n k (cls ++ [cl]) (j + 1) with
          | inl F => rintro ⟨s4, q1, q2, q3⟩; exact ⟨s4, q1, xz_tr a2 (xz_tr (xq_z (xq_15 (by decide))) q2), q3⟩
          | inr r => rintro ⟨s4, j4, c4, q1, q2, q3⟩; exact ⟨s4, j4, c4, q1, xz_tr a2 (xz_tr (xq_z (xq_15 (by decide))) q2), q3⟩
        · rw [if_neg c59, if_neg c59]
          have dd := X_failed (k := 1) a3 (by decide) (by decide) (by omega) (by omega)
          refine ⟨ow_setI s1 15 4 (flt 1 j), ?_, xz_tr a2 (xq_z (xq_15 (by decide))), dd⟩
          obtain ⟨fuel, rfl⟩ : ∃ z, fuel = z + 1 := ⟨fuel - 1, by omega⟩
          rw [X_clauseD dd, bdS, ltE, nI_1, dead _ _ _ _ dd]
      · rw [if_neg cj, if_pos (nI_le (by omega) (by omega))]
        exact ⟨s1, j, c', rfl, a2, a3, by omega, a8, by rw [List.length_append]; exact a7, by rw [List.length_append]; exact Nat.le_add_left _ _⟩
