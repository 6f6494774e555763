/-! the class reads terms and sums -/
def xTL (cf : Int32 → ow_S → Option (Unit × ow_S)) (d ft idx : Nat) (s : ow_S) : Option (Unit × ow_S) := fX6_readTerm_l7 cf (fun (s11 : ow_S) => some ((), s11)) (nI d) ft (nI idx) s
def xSL (cf : Int32 → ow_S → Option (Unit × ow_S)) (d fs idx : Nat) (s : ow_S) : Option (Unit × ow_S) := fX6_readSum_l7 (fX6_readTerm cf) (fun (s11 : ow_S) => some ((), s11)) (nI d) fs (nI idx) s
def xCS (cf : Int32 → ow_S → Option (Unit × ow_S)) (d fs idx : Nat) (acc : Option (aV × Nat)) (s : ow_S) : Option (Unit × ow_S) := match acc with
  | none => xSL cf d fs idx s
  | some (_, op) => ow_bd (fX1_add_17 (nI (ded op)) 0 s) (fun _ s9 => xSL cf d fs (idx + 1) s9)
theorem ded_tm {tb : Nat → Nat} {n i : Nat} (hb : ∀ i, tb i < 256) (h : isTm (cxN tb n i)) {α : Type} (A : Int32 → α) : (if nx tb n i = 42 then A 4 else if nx tb n i = 47 then A 5 else A 6) = A (nI (ded (cxN tb n i))) := by
  have e42 := nx_eq (tb := tb) (n := n) (i := i) (L := 42) (l := 42) hb rfl (by decide)
  have e47 := nx_eq (tb := tb) (n := n) (i := i) (L := 47) (l := 47) hb rfl (by decide)
  rcases h with h | h | h
  · rw [if_pos (e42.mpr h), h]; rfl
  · rw [if_neg (fun e => by have := e42.mp e; omega), if_pos (e47.mpr h), h]; rfl
  · rw [if_neg (fun e => by have := e42.mp e; omega), if_neg (fun e => by have := e47.mp e; omega), h]; rfl
theorem ded_pl {tb : Nat → Nat} {n i : Nat} (hb : ∀ i, tb i < 256) (h : isPl (cxN tb n i)) {α : Type} (A : Int32 → α) : (if nx tb n i = 43 then A 2 else A 3) = A (nI (ded (cxN tb n i))) := by
  have e43 := nx_eq (tb := tb) (n := n) (i := i) (L := 43) (l := 43) hb rfl (by decide)
  rcases h with h | h
  · rw [if_pos (e43.mpr h), h]; rfl
  · rw [if_neg (fun e => by have := e43.mp e; omega), h]; rfl
theorem is_tm {tb : Nat → Nat} {n i : Nat} (hb : ∀ i, tb i < 256) {α : Type} (A B : α) : (if nx tb n i = 42 then A else if nx tb n i = 47 then A else if nx tb n i = 37 then A else B) = if isTm (cxN tb n i) then A else B := by
  have e42 := nx_eq (tb := tb) (n := n) (i := i) (L := 42) (l := 42) hb rfl (by decide)
  have e47 := nx_eq (tb := tb) (n := n) (i := i) (L := 47) (l := 47) hb rfl (by decide)
  have e37 := nx_eq (tb := tb) (n := n) (i := i) (L := 37) (l := 37) hb rfl (by decide)
  by_cases h : isTm (cxN tb n i)
  · rw [if_pos h]
    rcases h with h | h | h
    · rw [if_pos (e42.mpr h)]
    · rw [if_neg (fun e => by have := e42.mp e; omega), if_pos (e47.mpr h)]
    · rw [if_neg (fun e => by have := e42.mp e; omega), if_neg (fun e => by have := e47.mp e; omega), if_pos (e37.mpr h)]
  · rw [if_neg h, if_neg (fun e => h (Or.inl (e42.mp e))), if_neg (fun e => h (Or.inr (Or.inl (e47.mp e)))), if_neg (fun e => h (Or.inr (Or.inr (e37.mp e))))]
theorem is_pl {tb : Nat → Nat} {n i : Nat} (hb : ∀ i, tb i < 256) {α : Type} (A B : α) : (if nx tb n i = 43 then A else if nx tb n i = 45 then A else B) = if isPl (cxN tb n i) then A else B := by
  have e43 := nx_eq (tb := tb) (n := n) (i := i) (L := 43) (l := 43) hb rfl (by decide)
  have e45 := nx_eq (tb := tb) (n := n) (i := i) (L := 45) (l := 45) hb rfl (by decide)
  by_cases h : isPl (cxN tb n i)
  · rw [if_pos h]
    rcases h with h | h
    · rw [if_pos (e43.mpr h)]
    · rw [if_neg (fun e => by have := e43.mp e; omega), if_pos (e45.mpr h)]
  · rw [if_neg h, if_neg (fun e => h (Or.inl (e43.mp e))), if_neg (fun e => h (Or.inr (e45.mp e)))]
theorem TL_tm {tb : Nat → Nat} {n i c d ft idx : Nat} {σ : ow_S} {cf : Int32 → ow_S → Option (Unit × ow_S)} (hb : ∀ i, tb i < 256) (hn : n ≤ 200) (h : XV tb n σ i c) (hi : i ≤ n) (hx : idx < n) (ht : isTm (cxN tb n i)) : xTL cf d (ft + 1) idx σ = ow_bd (cf (nI d) (ow_setI σ 15 3 (nI (i + 1)))) (fun _ s6 => ow_bd (fX1_add_17 (nI (ded (cxN tb n i))) 0 s6) (fun _ s9 => xTL cf d ft (idx + 1) s9)) := by
  unfold xTL
  rw [fX6_readTerm_l7, h.2.1, if_neg (nI_ge hx (by omega)), if_pos h.2.2.1, X_next h hn hi, bdS, ltE, is_tm hb, if_pos ht]
  dsimp only
  rw [ltE, h.1, nI_1, nI_1]
  congr 1
  funext _ s6
  rw [ltE, ded_tm hb ht (fun v8 => (fun (v8 : Int32) (s7 : ow_S) => ow_bd (fX1_add_17 v8 0 s7) (fun _ s9 => ow_lt (nI (idx + 1)) (fun v10 => fX6_readTerm_l7 cf (fun (s11 : ow_S) => some ((), s11)) (nI d) ft v10 s9))) v8 s6)]
theorem TL_no {tb : Nat → Nat} {n i c d ft idx : Nat} {σ : ow_S} {cf : Int32 → ow_S → Option (Unit × ow_S)} (hb : ∀ i, tb i < 256) (hn : n ≤ 200) (h : XV tb n σ i c) (hi : i ≤ n) (ht : ¬ isTm (cxN tb n i)) : xTL cf d (ft + 1) idx σ = some ((), σ) := by
  unfold xTL
  rw [fX6_readTerm_l7, if_pos h.2.2.1, X_next h hn hi, bdS, ltE, is_tm hb, if_neg ht]
  split <;> rfl
theorem TL_D {d ft idx : Nat} {F : Int32} {σ : ow_S} {cf : Int32 → ow_S → Option (Unit × ow_S)} (h : DV σ F) : xTL cf d (ft + 1) idx σ = some ((), σ) := by
  unfold xTL
  rw [fX6_readTerm_l7, if_neg (show ¬ σ.1 15 4 = 0 by rw [h.1]; exact h.2.1)]
  split <;> rfl
theorem SL_pl {tb : Nat → Nat} {n i c d fs idx : Nat} {σ : ow_S} {cf : Int32 → ow_S → Option (Unit × ow_S)} (hb : ∀ i, tb i < 256) (hn : n ≤ 200) (h : XV tb n σ i c) (hi : i ≤ n) (hx : idx < n) (ht : isPl (cxN tb n i)) (A : aV) : xSL cf d (fs + 1) idx σ = ow_bd (fX6_readTerm cf (nI d) (ow_setI σ 15 3 (nI (i + 1)))) (fun _ s6 => xCS cf d fs idx (some (A, cxN tb n i)) s6) := by
  unfold xSL
  rw [fX6_readSum_l7, h.2.1, if_neg (nI_ge hx (by omega)), if_pos h.2.2.1, X_next h hn hi, bdS, ltE, is_pl hb, if_pos ht]
  dsimp only
  rw [ltE, h.1, nI_1, nI_1]
  congr 1
  funext _ s6
  rw [ltE, ded_pl hb ht (fun v8 => (fun (v8 : Int32) (s7 : ow_S) => ow_bd (fX1_add_17 v8 0 s7) (fun _ s9 => ow_lt (nI (idx + 1)) (fun v10 => fX6_readSum_l7 (fX6_readTerm cf) (fun (s11 : ow_S) => some ((), s11)) (nI d) fs v10 s9))) v8 s6)]
  rfl
theorem SL_no {tb : Nat → Nat} {n i c d fs idx : Nat} {σ : ow_S} {cf : Int32 → ow_S → Option (Unit × ow_S)} (hb : ∀ i, tb i < 256) (hn : n ≤ 200) (h : XV tb n σ i c) (hi : i ≤ n) (ht : ¬ isPl (cxN tb n i)) : xSL cf d (fs + 1) idx σ = some ((), σ) := by
  unfold xSL
  rw [fX6_readSum_l7, if_pos h.2.2.1, X_next h hn hi, bdS, ltE, is_pl hb, if_neg ht]
  split <;> rfl
theorem SL_D {d fs idx : Nat} {F : Int32} {σ : ow_S} {cf : Int32 → ow_S → Option (Unit × ow_S)} (h : DV σ F) : xSL cf d (fs + 1) idx σ = some ((), σ) := by
  unfold xSL
  rw [fX6_readSum_l7, if_neg (show ¬ σ.1 15 4 = 0 by rw [h.1]; exact h.2.1)]
  split <;> rfl
theorem CS_D {d fs idx : Nat} {F : Int32} {acc : Option (aV × Nat)} {σ : ow_S} {cf : Int32 → ow_S → Option (Unit × ow_S)} (h : DV σ F) : ∃ σ', xCS cf d (fs + 1) idx acc σ = some ((), σ') ∧ xq σ σ' ∧ DV σ' F := by
  unfold xCS
  cases acc with
  | none => exact ⟨σ, SL_D h, xq_rf, h⟩
  | some x =>
    obtain ⟨A, op⟩ := x
    obtain ⟨s1, a1, a2, a3⟩ := X_addD (x0 := nI (ded op)) (x1 := 0) h
    refine ⟨s1, ?_, a2, a3⟩
    dsimp only
    rw [a1, bdS, SL_D a3]
def pn (acc : Option (aV × Nat)) : Nat := match acc with
  | none => 0
  | some _ => 1
/-- the pieces that lie there: what waits, the term -/
def sgs (S : Nat → Int32) (c0 c DF : Nat) (acc : Option (aV × Nat)) (T : aV) : Prop := match acc with
  | none => SE S c0 c (DF + 1) T
  | some (A, op) => isPl op ∧ ∃ b, c0 ≤ b ∧ b ≤ c ∧ SE S c0 b (DF + 2) A ∧ SE S b c (DF + 1) T
theorem CS_go {tb : Nat → Nat} {n i c d fs idx i0 c0 DF : Nat} {acc : Option (aV × Nat)} {T : aV} {σ : ow_S} {cf : Int32 → ow_S → Option (Unit × ow_S)} (hn : n ≤ 200) (h : XV tb n σ i c) (hi : i ≤ n) (h0 : c0 ≤ i0) (hcc : c0 ≤ c) (hc : c + pn acc + i0 ≤ c0 + i) (hs : sgs (σ.1 18) c0 c DF acc T) : ∃ σ' c1 idx', xCS cf d fs idx acc σ = xSL cf d fs idx' σ' ∧ idx' ≤ idx + 1 ∧ xq σ σ' ∧ XV tb n σ' i c1 ∧ c0 ≤ c1 ∧ c1 + i0 ≤ c0 + i ∧ (∀ k, k < c0 → σ'.1 18 k = σ.1 18 k) ∧ SE (σ'.1 18) c0 c1 (DF + 2) (jn acc T) := by
  cases acc with
  | none => exact ⟨σ, c, idx, rfl, by omega, xq_rf, h, hcc, by simp only [pn] at hc; omega, fun _ _ => rfl, SE.le hs (by omega)⟩
  | some x =>
    obtain ⟨A, op⟩ := x
    obtain ⟨hop, b, hb1, hb2, hA, hT⟩ := hs
    simp only [pn] at hc
    have e : xCS cf d fs idx (some (A, op)) σ = xSL cf d fs (idx + 1) (ow_setI (ow_setI σ 18 c (((0 : Int32) <<< (4 &&& 31)) ||| nI (ded op))) 17 5 (nI (c + 1))) := by
      show ow_bd (fX1_add_17 (nI (ded op)) 0 σ) (fun _ s9 => xSL cf d fs (idx + 1) s9) = _
      rw [X_add h.2.2.2.2 (by omega), bdS]
    refine ⟨_, c + 1, idx + 1, e, by omega, xq_add, X_addV h, by omega, by omega, fun k hk => by rw [X_addS, if_neg (by omega)], ?_⟩
    refine SE_bin (hA.cg (fun k x y => by rw [X_addS, if_neg (by omega)])) (hT.cg (fun k x y => by rw [X_addS, if_neg (by omega)])) ?_ (Or.inr hop) (Nat.le_refl _) (by omega)
    rw [X_addS, if_pos rfl]
    exact st_mk (q := 0) (by decide) (ded_lt op)
theorem X_tail {tb : Nat → Nat} {n d DF : Nat} (hb : ∀ i, tb i < 256) (hn : n ≤ 200) {cf : Int32 → ow_S → Option (Unit × ow_S)} {p : Nat → pR} (hF : XI tb n SE cf d p DF) : ∀ (k : Nat) (acc : Option (aV × Nat)) (T : aV) (i c i0 c0 idx idx2 ft fs : Nat) (σ : ow_S), XV tb n σ i c → i ≤ n → n < i + k → idx < i → idx2 < i → n < i + ft → n < i + fs → i0 < i → c0 ≤ i0 → c0 ≤ c → c + pn acc + i0 ≤ c0 + i → sgs (σ.1 18) c0 c DF acc T → XO tb n SE σ i0 c0 (DF + 2) (tS p (cxN tb n) k acc T i) (ow_bd (xTL cf d ft idx σ) (fun _ s6 => xCS cf d fs idx2 acc s6)) := by
  intro k
  induction k with
  | zero => intros; omega
  | succ k ih =>
    intro acc T i c i0 c0 idx idx2 ft fs σ h hi hk hx1 hx2 hft hfs hi0 h0 hcc hc hs
    obtain ⟨ft, rfl⟩ : ∃ z, ft = z + 1 := ⟨ft - 1, by omega⟩
    obtain ⟨fs, rfl⟩ : ∃ z, fs = z + 1 := ⟨fs - 1, by omega⟩
    unfold tS
    by_cases ct : isTm (cxN tb n i)
    · have hlt : i < n := cx_lt (tb := tb) rfl (by rcases ct with h | h | h <;> omega)
      rw [if_pos ct, TL_tm hb hn h hi (by omega) ct]
      have hI := hF (i + 1) c _ (X_go h (i + 1)) (by omega) (by omega)
      cases hr : p (i + 1) with
      | inl F =>
        rw [hr] at hI
        obtain ⟨s2, a1, a2, a3⟩ := hI
        obtain ⟨s3, b1, b2, b3⟩ := X_addD (x0 := nI (ded (cxN tb n i))) (x1 := 0) a3
        rw [a1, bdS, b1, bdS]
        show XF σ F _
        by_cases hz : ft = 0
        · omega
        · obtain ⟨ft', rfl⟩ : ∃ z, ft = z + 1 := ⟨ft - 1, by omega⟩
          obtain ⟨s4, d1, d2, d3⟩ := CS_D (cf := cf) (d := d) (fs := fs) (idx := idx2) (acc := acc) b3
          rw [TL_D b3, bdS, d1]
          exact ⟨s4, rfl, xq_tr (xq_15 (by decide)) (xq_tr a2 (xq_tr b2 d2)), d3⟩
      | inr r =>
        obtain ⟨j, V⟩ := r
        rw [hr] at hI
        obtain ⟨hij, s2, c', a1, a2, a3, a4, a5, a6, a7, a8⟩ := hI
        have hpn : pn acc ≤ 1 := by cases acc <;> simp [pn]
        rw [a1, bdS, X_add a3.2.2.2.2 (by omega), bdS]
        have hS : ∀ q, q < c → (ow_setI (ow_setI s2 18 c' (((0 : Int32) <<< (4 &&& 31)) ||| nI (ded (cxN tb n i)))) 17 5 (nI (c' + 1))).1 18 q = σ.1 18 q := fun q hq => by
          rw [X_addS, if_neg (by omega), a7 q hq, gIn _ (by decide)]
        have hV : SE ((ow_setI (ow_setI s2 18 c' (((0 : Int32) <<< (4 &&& 31)) ||| nI (ded (cxN tb n i)))) 17 5 (nI (c' + 1))).1 18) c c' DF V := a8.cg (fun q x y => by rw [X_addS, if_neg (by omega)])
        have hW : (ow_setI (ow_setI s2 18 c' (((0 : Int32) <<< (4 &&& 31)) ||| nI (ded (cxN tb n i)))) 17 5 (nI (c' + 1))).1 18 c' = nI (0 * 16 + ded (cxN tb n i)) := by
          rw [X_addS, if_pos rfl]
          exact st_mk (q := 0) (by decide) (ded_lt _)
        have hs2 : sgs ((ow_setI (ow_setI s2 18 c' (((0 : Int32) <<< (4 &&& 31)) ||| nI (ded (cxN tb n i)))) 17 5 (nI (c' + 1))).1 18) c0 (c' + 1) DF acc (vJ (cxN tb n i) T V) := by
          cases acc with
          | none => exact SE_bin (SE.cg hs (fun q x y => hS q y)) hV hW (Or.inl ct) (Nat.le_refl _) (by omega)
          | some x =>
            obtain ⟨A, op⟩ := x
            obtain ⟨hop, b, hb1, hb2, hA, hT⟩ := hs
            exact ⟨hop, b, hb1, by omega, hA.cg (fun q x y => hS q (by omega)), SE_bin (hT.cg (fun q x y => hS q y)) hV hW (Or.inl ct) (Nat.le_refl _) (by omega)⟩
        have := ih acc (vJ (cxN tb n i) T V) j (c' + 1) i0 c0 (idx + 1) idx2 ft (fs + 1) _ (X_addV a3) a4 (by omega) (by omega) (by omega) (by omega) (by omega) (by omega) h0 (by omega) (by omega) hs2
        show XO tb n SE σ i0 c0 (DF + 2) (tS p (cxN tb n) k acc (vJ (cxN tb n i) T V) j) _
        have hqq : xq σ (ow_setI (ow_setI s2 18 c' (((0 : Int32) <<< (4 &&& 31)) ||| nI (ded (cxN tb n i)))) 17 5 (nI (c' + 1))) := xq_tr (xq_15 (by decide)) (xq_tr a2 xq_add)
        revert this
        cases tS p (cxN tb n) k acc (vJ (cxN tb n i) T V) j with
        | inl F => rintro ⟨s4, q1, q2, q3⟩; exact ⟨s4, q1, xq_tr hqq q2, q3⟩
        | inr r => rintro ⟨w0, s4, c4, q1, q2, q3, q4, q5, q6, q7, q8⟩; exact ⟨w0, s4, c4, q1, xq_tr hqq q2, q3, q4, q5, q6, fun q hq => by rw [q7 q hq, hS q (by omega)], q8⟩
    · rw [if_neg ct, TL_no hb hn h hi ct, bdS]
      obtain ⟨s1, c1, idx', e1, e2, e3, e4, e5, e6, e7, e8⟩ := CS_go (cf := cf) (d := d) (fs := fs + 1) (idx := idx2) hn h hi h0 hcc hc hs
      rw [e1]
      by_cases cp : isPl (cxN tb n i)
      · have hlt : i < n := cx_lt (tb := tb) rfl (by rcases cp with h | h <;> omega)
        rw [if_pos cp, SL_pl hb hn e4 hi (by omega) cp (jn acc T), fX6_readTerm]
        have hI := hF (i + 1) c1 _ (X_go e4 (i + 1)) (by omega) (by omega)
        cases hr : p (i + 1) with
        | inl F =>
          rw [hr] at hI
          obtain ⟨s2, a1, a2, a3⟩ := hI
          rw [a1, bdS]
          show XF σ F _
          by_cases hz : fs = 0
          · omega
          · obtain ⟨fs', rfl⟩ : ∃ z, fs = z + 1 := ⟨fs - 1, by omega⟩
            obtain ⟨s4, d1, d2, d3⟩ := CS_D (cf := cf) (d := d) (fs := fs') (idx := idx') (acc := some (jn acc T, cxN tb n i)) a3
            have := TL_D (cf := cf) (d := d) (ft := 99999) (idx := 0) a3
            unfold xTL at this
            rw [show ow_FU = 99999 + 1 from rfl, z0, this, bdS, d1]
            exact ⟨s4, rfl, xq_tr e3 (xq_tr (xq_15 (by decide)) (xq_tr a2 d2)), d3⟩
        | inr r =>
          obtain ⟨j, V⟩ := r
          rw [hr] at hI
          obtain ⟨hij, s2, c', a1, a2, a3, a4, a5, a6, a7, a8⟩ := hI
          rw [a1, bdS]
          have hS : ∀ q, q < c1 → s2.1 18 q = s1.1 18 q := fun q hq => by rw [a7 q hq, gIn _ (by decide)]
          have hFU : 202 < ow_FU := by decide
          have hs2 : sgs (s2.1 18) c0 c' DF (some (jn acc T, cxN tb n i)) V := ⟨cp, c1, e5, a5, e8.cg (fun q x y => hS q y), a8.le (by omega)⟩
          have := ih (some (jn acc T, cxN tb n i)) V j c' i0 c0 0 idx' ow_FU fs s2 a3 a4 (by omega) (by omega) (by omega) (by omega) (by omega) (by omega) h0 (by omega) (by simp only [pn]; omega) hs2
          show XO tb n SE σ i0 c0 (DF + 2) (tS p (cxN tb n) k (some (jn acc T, cxN tb n i)) V j) (ow_bd (xTL cf d ow_FU 0 s2) (fun _ s6 => xCS cf d fs idx' (some (jn acc T, cxN tb n i)) s6))
          have hqq : xq σ s2 := xq_tr e3 (xq_tr (xq_15 (by decide)) a2)
          revert this
          cases tS p (cxN tb n) k (some (jn acc T, cxN tb n i)) V j with
          | inl F => rintro ⟨s4, q1, q2, q3⟩; exact ⟨s4, q1, xq_tr hqq q2, q3⟩
          | inr r => rintro ⟨w0, s4, c4, q1, q2, q3, q4, q5, q6, q7, q8⟩; exact ⟨w0, s4, c4, q1, xq_tr hqq q2, q3, q4, q5, q6, fun q hq => by rw [q7 q hq, hS q (by omega), e7 q hq], q8⟩
      · rw [if_neg cp, SL_no hb hn e4 hi cp]
        exact ⟨hi0, s1, c1, rfl, e3, e4, hi, e5, e6, e7, e8⟩
theorem X_sum {tb : Nat → Nat} {n d DF : Nat} (hb : ∀ i, tb i < 256) (hn : n ≤ 200) {cf : Int32 → ow_S → Option (Unit × ow_S)} {p : Nat → pR} (hF : XI tb n SE cf d p DF) : XI tb n SE (fX6_readSum (fX6_readTerm cf)) d (pSum (cxN tb n) p) (DF + 2) := by
  intro i c σ h hi hc
  have hI := hF i c σ h hi hc
  have hFU : 202 < ow_FU := by decide
  rw [fX6_readSum, fX6_readTerm]
  unfold pSum
  cases hr : p i with
  | inl F =>
    rw [hr] at hI
    obtain ⟨s2, a1, a2, a3⟩ := hI
    rw [a1, bdS]
    have t1 := TL_D (cf := cf) (d := d) (ft := 99999) (idx := 0) a3
    have t2 := SL_D (cf := cf) (d := d) (fs := 99999) (idx := 0) a3
    unfold xTL at t1
    unfold xSL at t2
    rw [show ow_FU = 99999 + 1 from rfl, z0, t1, bdS, t2]
    exact ⟨s2, rfl, a2, a3⟩
  | inr r =>
    obtain ⟨j, V⟩ := r
    rw [hr] at hI
    obtain ⟨hij, s2, c', a1, a2, a3, a4, a5, a6, a7, a8⟩ := hI
    rw [a1, bdS]
    have := X_tail hb hn hF 202 none V j c' i c 0 0 ow_FU ow_FU s2 a3 a4 (by omega) (by omega) (by omega) (by omega) (by omega) hij hc a5 (by simp only [pn]; omega) (a8.le (by omega))
    show XO tb n SE σ i c (DF + 2) (tS p (cxN tb n) 202 none V j) (ow_bd (xTL cf d ow_FU 0 s2) (fun _ s6 => xCS cf d ow_FU 0 none s6))
    revert this
    cases tS p (cxN tb n) 202 none V j with
    | inl F => rintro ⟨s4, q1, q2, q3⟩; exact ⟨s4, q1, xq_tr a2 q2, q3⟩
    | inr r => rintro ⟨w0, s4, c4, q1, q2, q3, q4, q5, q6, q7, q8⟩; exact ⟨w0, s4, c4, q1, xq_tr a2 q2, q3, q4, q5, q6, fun q hq => by rw [q7 q hq, a7 q hq], q8⟩
theorem X_sumD {cs : Int32 → ow_S → Option (Unit × ow_S)} {d : Nat} {F : Int32} {σ : ow_S} (h : DV σ F) : fX6_readSum (fX6_readTerm (fX6_readFactor cs)) (nI d) σ = some ((), σ) := by
  have t1 := TL_D (cf := fX6_readFactor cs) (d := d) (ft := 99999) (idx := 0) h
  have t2 := SL_D (cf := fX6_readFactor cs) (d := d) (fs := 99999) (idx := 0) h
  unfold xTL at t1
  unfold xSL at t2
  rw [fX6_readSum, fX6_readTerm, X_factorD h, bdS, show ow_FU = 99999 + 1 from rfl, z0, t1, bdS, t2]
theorem X_pE {tb : Nat → Nat} {n : Nat} (hb : ∀ i, tb i < 256) (hn : n ≤ 200) : ∀ (e L d : Nat), d + e = 6 → e < L → XI tb n SE (fTsum L) d (pE (cxN tb n) e) (3 + 2 * e) := by
  intro e
  induction e with
  | zero =>
    intro L d hd hL
    obtain ⟨L, rfl⟩ : ∃ z, L = z + 1 := ⟨L - 1, by omega⟩
    exact X_sum hb hn (X_factor (D := 1) (D' := 1) hb hn (by omega) (fun _ => by omega) (fun p hp => by cases hp) (Nat.le_refl _) (Nat.le_refl _))
  | succ e ih =>
    intro L d hd hL
    obtain ⟨L, rfl⟩ : ∃ z, L = z + 1 := ⟨L - 1, by omega⟩
    have := X_sum hb hn (X_factor (cs := fTsum L) (D := 3 + 2 * e) (D' := 3 + 2 * e) (sub := some (pE (cxN tb n) e)) hb hn (show d ≤ 6 by omega) (fun h => by cases h) (fun p hp => by cases hp; exact ⟨by omega, ih L (d + 1) (by omega) (by omega)⟩) (by omega) (Nat.le_refl _))
    rw [show 3 + 2 * (e + 1) = 3 + 2 * e + 2 by omega]
    exact this
