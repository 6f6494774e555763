/-! the reference reads a clause -/
abbrev MU (tb : Nat → Nat) (n : Nat) (σ : ow_S) (i c : Nat) : Prop := σ.1 0 24 = nI i ∧ σ.1 0 25 = nI n ∧ σ.1 0 26 = 0 ∧ σ.1 0 28 = nI c ∧ ∀ k, k < 220 → σ.1 1 k &&& 255 = nI (tb k)
abbrev mz (σ σ' : ow_S) : Prop := (∀ k, k < 24 → σ'.1 0 k = σ.1 0 k) ∧ ∀ c, c ≠ 0 → c < 12 ∨ 18 < c → σ'.1 c = σ.1 c
theorem mz_tr {a b c : ow_S} (h1 : mz a b) (h2 : mz b c) : mz a c := ⟨fun k hk => (h2.1 k hk).trans (h1.1 k hk), fun q x y => (h2.2 q x y).trans (h1.2 q x y)⟩
theorem mz_0 {σ : ow_S} {k : Nat} {v : Int32} (hk : 24 ≤ k) : mz σ (ow_setI σ 0 k v) := ⟨fun j hj => by rw [gIs, if_neg (by omega)], fun c h0 _ => gIc _ _ _ _ _ h0⟩
theorem mz_c {σ : ow_S} {q k : Nat} {v : Int32} (h1 : 12 ≤ q) (h2 : q ≤ 18) : mz σ (ow_setI σ q k v) := ⟨fun j _ => by rw [gIn _ (by omega)], fun c _ h => gIc _ _ _ _ _ (by omega)⟩
theorem ps_f {k : Nat} (h : k < 24) : pslot k = false := by
  show (k == 24 || k == 26 || k == 28 || k == 29 || k == 30 || k == 31 || k == 32) = false
  have e : ∀ m, 24 ≤ m → (k == m) = false := fun m hm => by
    rw [beq_eq_false_iff_ne]
    omega
  rw [e 24 (by decide), e 26 (by decide), e 28 (by decide), e 29 (by decide), e 30 (by decide), e 31 (by decide), e 32 (by decide)]
  rfl
theorem my_z {σ σ' : ow_S} (h : my σ σ') : mz σ σ' := ⟨fun k hk => h.1 k (ps_f hk), fun c h0 hc => h.2 c h0 (by omega) (by omega) (by omega)⟩
theorem U_here {tb : Nat → Nat} {n i c : Nat} {σ : ow_S} (h : MU tb n σ i c) (hn : n ≤ 200) (hi : i ≤ n) : fX10_here σ = some (hr tb n i, σ) := by
  unfold fX10_here hr
  simp only [ow_lt, h.1, h.2.1]
  by_cases c : i < n
  · rw [if_neg (nI_ge c (by omega)), if_pos (ow_in_nI (show i < 220 by omega) (by decide)), nI_clamp (by omega), h.2.2.2.2 i (by omega), if_pos c]
  · rw [if_pos (nI_le (by omega) (by omega)), if_neg c]
theorem U_good {σ : ow_S} (h : σ.1 0 26 = 0) : fX10_isGood σ = some (1, σ) := by
  unfold fX10_isGood
  simp only [ow_lt, h, if_true, is01_1]
theorem U_wrongs {i k : Nat} {σ : ow_S} (h : σ.1 0 26 = 0) : fX10_wrongs (nI k) (nI i) σ = some ((), ow_setI σ 0 26 (flt k i)) := by
  unfold fX10_wrongs
  simp only [ow_lt, h]
  rw [if_pos (show (0 : Int32) ≤ 0 by decide)]
  rfl
theorem MV_U {tb : Nat → Nat} {n i c d : Nat} {st : List Nat} {σ : ow_S} (h : MV tb n σ i c st d) : MU tb n σ i c := ⟨h.1, h.2.1, h.2.2.1, h.2.2.2.1, h.2.2.2.2.2.2.2⟩
theorem MU_c {tb : Nat → Nat} {n i c q k : Nat} {v : Int32} {σ : ow_S} (h : MU tb n σ i c) (h2 : 2 ≤ q) : MU tb n (ow_setI σ q k v) i c := by
  obtain ⟨h1, h2', h3, h4, h5⟩ := h
  refine ⟨?_, ?_, ?_, ?_, fun k hk => ?_⟩
  · rw [gIn _ (by omega)]; exact h1
  · rw [gIn _ (by omega)]; exact h2'
  · rw [gIn _ (by omega)]; exact h3
  · rw [gIn _ (by omega)]; exact h4
  · rw [gIn _ (by omega)]; exact h5 k hk
theorem MU_0 {tb : Nat → Nat} {n i c k : Nat} {v : Int32} {σ : ow_S} (h : MU tb n σ i c) (hk : k = 27 ∨ 29 ≤ k) : MU tb n (ow_setI σ 0 k v) i c := by
  obtain ⟨h1, h2, h3, h4, h5⟩ := h
  refine ⟨?_, ?_, ?_, ?_, fun k hk => ?_⟩
  · rw [gIs, if_neg (by omega)]; exact h1
  · rw [gIs, if_neg (by omega)]; exact h2
  · rw [gIs, if_neg (by omega)]; exact h3
  · rw [gIs, if_neg (by omega)]; exact h4
  · rw [gIn _ (by decide)]; exact h5 k hk
theorem MU_go {tb : Nat → Nat} {n i c j : Nat} {σ : ow_S} (h : MU tb n σ i c) : MU tb n (ow_setI σ 0 24 (nI j)) j c := by
  obtain ⟨h1, h2, h3, h4, h5⟩ := h
  refine ⟨?_, ?_, ?_, ?_, fun k hk => ?_⟩
  · rw [gIs, if_pos rfl]
  · rw [gIs, if_neg (by decide)]; exact h2
  · rw [gIs, if_neg (by decide)]; exact h3
  · rw [gIs, if_neg (by decide)]; exact h4
  · rw [gIn _ (by decide)]; exact h5 k hk
theorem MV_c {tb : Nat → Nat} {n i c d q k : Nat} {st : List Nat} {v : Int32} {σ : ow_S} (h : MV tb n σ i c st d) (h2 : 2 ≤ q) (h3 : q < 16) : MV tb n (ow_setI σ q k v) i c st d := by
  obtain ⟨g1, g2, g3, g4, g5, g6, g7, g8⟩ := h
  refine ⟨?_, ?_, ?_, ?_, ?_, ?_, ?_, fun k hk => ?_⟩
  · rw [gIn _ (by omega)]; exact g1
  · rw [gIn _ (by omega)]; exact g2
  · rw [gIn _ (by omega)]; exact g3
  · rw [gIn _ (by omega)]; exact g4
  · rw [gIn _ (by omega)]; exact g5
  · rw [gIn _ (by omega)]; exact g6
  · rw [gIc _ _ _ _ _ (by omega)]; exact g7
  · rw [gIn _ (by omega)]; exact g8 k hk
theorem lowc_c {σ : ow_S} {q k c : Nat} {v : Int32} (h : q < 16) : lowc σ (ow_setI σ q k v) c := fun j _ => ⟨by rw [gIn _ (by omega)], by rw [gIn _ (by omega)]⟩
/-- the end of a clause -/
def clE (s15 : ow_S) : Option (Unit × ow_S) := if ow_in (s15.1 0 27) 14 = true then ow_lt (ow_setI s15 15 (Int32.toNatClampNeg (s15.1 0 27)) (s15.1 0 28)) (fun s16 => ow_lt (ow_setI s16 0 27 ((s16.1 0 27) + 1)) (fun s17 => some ((), s17))) else none
def clJ (s11 : ow_S) : Option (Unit × ow_S) := if ow_in (s11.1 0 27) 14 = true then ow_lt (ow_setI s11 14 (Int32.toNatClampNeg (s11.1 0 27)) (s11.1 0 28)) (fun s12 => ow_bd (fX10_isGood s12) (fun r14 s13 => if r14 = 0 then clE s13 else (ow_bd (fX10_condition s13) (fun _ s18 => clE s18)))) else none
theorem M_clE {m : Nat} {s : ow_S} (h : s.1 0 27 = nI m) (hm : m < 14) : clE s = some ((), ow_setI (ow_setI s 15 m (s.1 0 28)) 0 27 (nI (m + 1))) := by
  unfold clE
  rw [h, if_pos (ow_in_nI hm (by decide)), ltE, nI_clamp (by omega), gIn _ (by decide), h, nI_1, ltE]
theorem M_clJD {m : Nat} {F : Int32} {s : ow_S} (hd : NDV s F) (h : s.1 0 27 = nI m) (hm : m < 14) : ∃ s', clJ s = some ((), s') ∧ mz s s' ∧ NDV s' F := by
  have hd2 : NDV (ow_setI s 14 m (s.1 0 28)) F := ⟨by rw [gIn _ (by decide)]; exact hd.1, hd.2⟩
  have h2 : (ow_setI s 14 m (s.1 0 28)).1 0 27 = nI m := by rw [gIn _ (by decide)]; exact h
  refine ⟨ow_setI (ow_setI (ow_setI s 14 m (s.1 0 28)) 15 m ((ow_setI s 14 m (s.1 0 28)).1 0 28)) 0 27 (nI (m + 1)), ?_, mz_tr (mz_c (by decide) (by decide)) (mz_tr (mz_c (by decide) (by decide)) (mz_0 (by decide))), ⟨?_, hd.2⟩⟩
  · unfold clJ
    rw [h, if_pos (ow_in_nI hm (by decide)), ltE, nI_clamp (by omega), M_goodD hd2, bdS, if_pos rfl, M_clE h2 hm]
  · rw [gIs, if_neg (by decide), gIn _ (by decide), gIn _ (by decide)]
    exact hd.1
def MJO (tb : Nat → Nat) (n m i c : Nat) (s : ow_S) (r : pR) : Prop := match r with
  | .inl F => ∃ s', clJ s = some ((), s') ∧ mz s s' ∧ NDV s' F
  | .inr (j, V) => ∃ s' c', clJ s = some ((), s') ∧ mz s s' ∧ MU tb n s' j c' ∧ i < j ∧ j ≤ n ∧ c ≤ c' ∧ c' + i ≤ c + j ∧ lowc s s' c ∧ SM s' c c' V ∧ s'.1 0 27 = nI (m + 1) ∧ s'.1 12 = s.1 12 ∧ s'.1 13 = s.1 13 ∧ (∀ q, s'.1 14 q = if q = m then nI c else s.1 14 q) ∧ ∀ q, s'.1 15 q = if q = m then nI c' else s.1 15 q
theorem M_clJ {tb : Nat → Nat} {n m i c : Nat} {s : ow_S} (hb : ∀ i, tb i < 256) (hn : n ≤ 200) (h : MV tb n s i c [] 0) (hi : i ≤ n) (hc : c ≤ i) (h27 : s.1 0 27 = nI m) (hm : m < 14) : MJO tb n m i c s (pCond (cxN tb n) i) := by
  have hv := MV_c (q := 14) (k := m) (v := nI c) h (by decide) (by decide)
  have h272 : (ow_setI s 14 m (nI c)).1 0 27 = nI m := by rw [gIn _ (by decide)]; exact h27
  have hJ : clJ s = ow_bd (fX10_condition (ow_setI s 14 m (nI c))) (fun _ s18 => clE s18) := by
    unfold clJ
    rw [h27, h.2.2.2.1, if_pos (ow_in_nI hm (by decide)), ltE, nI_clamp (by omega), M_good hv, bdS, if_neg (show ¬ (1 : Int32) = 0 by decide)]
  have hI := M_condition hb hn hv hi hc
  unfold MJO
  rw [hJ]
  cases hr1 : pCond (cxN tb n) i with
  | inl F =>
    rw [hr1] at hI
    obtain ⟨s1, a1, a2, a3⟩ := hI
    have e27 : s1.1 0 27 = nI m := (a2.1 27 rfl).trans h272
    refine ⟨_, by rw [a1, bdS, M_clE e27 hm], mz_tr (mz_c (by decide) (by decide)) (mz_tr (my_z a2) (mz_tr (mz_c (by decide) (by decide)) (mz_0 (by decide)))), ⟨?_, a3.2⟩⟩
    rw [gIs, if_neg (by decide), gIn _ (by decide)]
    exact a3.1
  | inr r =>
    obtain ⟨j, V⟩ := r
    rw [hr1] at hI
    obtain ⟨s1, c', a1, a2, a3, a4, a5, a6, a7, a8, a9⟩ := hI
    have e27 : s1.1 0 27 = nI m := (a2.1 27 rfl).trans h272
    refine ⟨ow_setI (ow_setI s1 15 m (nI c')) 0 27 (nI (m + 1)), c', by rw [a1, bdS, M_clE e27 hm, a3.2.2.2.1], mz_tr (mz_c (by decide) (by decide)) (mz_tr (my_z a2) (mz_tr (mz_c (by decide) (by decide)) (mz_0 (by decide)))), MU_0 (MU_c (MV_U a3) (by decide)) (by decide), a4, a5, a6, a7, ?_, ?_, ?_, ?_, ?_, fun q => ?_, fun q => ?_⟩
    · exact lowc_tr (m := c) (lowc_c (by decide)) (lowc_tr (m := c) a8 (lowc_tr (m := c) (lowc_c (by decide)) lowc_0 (Nat.le_refl _)) (Nat.le_refl _)) (Nat.le_refl _)
    · exact SM_cg a9 (lowc_tr (m := c') (lowc_c (by decide)) lowc_0 (Nat.le_refl _)) (Nat.le_refl _)
    · rw [gIs, if_pos rfl]
    · rw [gIc _ _ _ _ _ (by decide), gIc _ _ _ _ _ (by decide), a2.2 12 (by decide) (by decide) (by decide) (by decide), gIc _ _ _ _ _ (by decide)]
    · rw [gIc _ _ _ _ _ (by decide), gIc _ _ _ _ _ (by decide), a2.2 13 (by decide) (by decide) (by decide) (by decide), gIc _ _ _ _ _ (by decide)]
    · rw [gIn _ (by decide), gIn _ (by decide), a2.2 14 (by decide) (by decide) (by decide) (by decide), gIs]
    · rw [gIn _ (by decide), gIs]
      by_cases e : q = m
      · rw [if_pos e, if_pos e]
      · rw [if_neg e, if_neg e, a2.2 15 (by decide) (by decide) (by decide) (by decide), gIn _ (by decide)]
def MCl (σ : ow_S) (cls : List aC) (c : Nat) : Prop := σ.1 0 27 = nI cls.length ∧ ∀ (k : Nat) (cl : aC), cls[k]? = some cl → ∃ b m e : Nat, b ≤ m ∧ m ≤ e ∧ e ≤ c ∧ σ.1 12 k = cl.1 ∧ σ.1 13 k = nI b ∧ σ.1 14 k = nI m ∧ σ.1 15 k = nI e ∧ (cl.1 ≠ 110 → SM σ b m cl.2.1) ∧ SM σ m e cl.2.2
theorem MCl_snoc {σ σ' : ow_S} {cls : List aC} {cl : aC} {c c' b m : Nat} (h : MCl σ cls c) (hc : c ≤ c') (h6 : σ'.1 0 27 = nI (cls.length + 1)) (hlow : lowc σ σ' c) (h19 : ∀ q, σ'.1 12 q = if q = cls.length then cl.1 else σ.1 12 q) (h20 : ∀ q, σ'.1 13 q = if q = cls.length then nI b else σ.1 13 q) (h21 : ∀ q, σ'.1 14 q = if q = cls.length then nI m else σ.1 14 q) (h22 : ∀ q, σ'.1 15 q = if q = cls.length then nI c' else σ.1 15 q) (hbm : b ≤ m) (hmc : m ≤ c') (hE : cl.1 ≠ 110 → SM σ' b m cl.2.1) (hC : SM σ' m c' cl.2.2) : MCl σ' (cls ++ [cl]) c' := by
  refine ⟨by rw [h6, List.length_append]; rfl, fun k cl2 hk => ?_⟩
  by_cases e : k = cls.length
  · subst e
    rw [List.getElem?_append_right (Nat.le_refl _), Nat.sub_self] at hk
    cases hk
    exact ⟨b, m, c', hbm, hmc, Nat.le_refl _, by rw [h19, if_pos rfl], by rw [h20, if_pos rfl], by rw [h21, if_pos rfl], by rw [h22, if_pos rfl], hE, hC⟩
  · have hlt : k < cls.length := by
      have := (List.getElem?_eq_some_iff.mp hk).1
      rw [List.length_append] at this
      simp only [List.length_cons, List.length_nil] at this
      omega
    rw [List.getElem?_append_left hlt] at hk
    obtain ⟨b2, m2, e2, x1, x2, x3, x4, x5, x6, x7, x8, x9⟩ := h.2 k cl2 hk
    exact ⟨b2, m2, e2, x1, x2, by omega, by rw [h19, if_neg e]; exact x4, by rw [h20, if_neg e]; exact x5, by rw [h21, if_neg e]; exact x6, by rw [h22, if_neg e]; exact x7, fun hn => SM_cg (x8 hn) hlow (by omega), SM_cg x9 hlow (by omega)⟩
def MCO (tb : Nat → Nat) (n : Nat) (σ : ow_S) (i : Nat) (cls : List aC) (r : qR) (o : Option (Unit × ow_S)) : Prop := match r with
  | .inl F => ∃ σ', o = some ((), σ') ∧ mz σ σ' ∧ NDV σ' F
  | .inr (j, cl) => ∃ σ' c', o = some ((), σ') ∧ mz σ σ' ∧ MU tb n σ' j c' ∧ i < j ∧ j ≤ n ∧ c' ≤ j ∧ cls.length < 14 ∧ MCl σ' (cls ++ [cl]) c'
def clK (r2 : Int32) (s3 : ow_S) : Option (Unit × ow_S) := ow_bd (fX10_isGood s3) (fun r5 s4 => if r5 = 0 then (some ((), s4)) else (if ow_in (s4.1 0 27) 14 = true then ow_lt (ow_setI s4 12 (Int32.toNatClampNeg (s4.1 0 27)) r2) (fun s6 => if ow_in (s6.1 0 27) 14 = true then ow_lt (ow_setI s6 13 (Int32.toNatClampNeg (s6.1 0 27)) (s6.1 0 28)) (fun s7 => ow_lt (ow_setI s7 0 24 ((s7.1 0 24) + 1)) (fun s8 => ow_lt (ow_setI s8 0 30 0) (fun s9 => ow_lt (ow_setI s9 0 29 0) (fun s10 => if r2 = 110 then (clJ s10) else (ow_bd (fX10_value s10) (fun _ s19 => clJ s19)))))) else none) else none))
theorem cl_eq (s0 : ow_S) : fX10_clause s0 = ow_bd (fX10_here s0) (fun r2 s1 => if r2 = 110 then (if (s1.1 0 27) = 14 then (ow_bd (fX10_wrongs 4 (s1.1 0 24) s1) (fun _ s21 => clK r2 s21)) else (clK r2 s1)) else (if r2 = 114 then (if (s1.1 0 27) = 14 then (ow_bd (fX10_wrongs 4 (s1.1 0 24) s1) (fun _ s21 => clK r2 s21)) else (clK r2 s1)) else (if r2 = 115 then (if (s1.1 0 27) = 14 then (ow_bd (fX10_wrongs 4 (s1.1 0 24) s1) (fun _ s21 => clK r2 s21)) else (clK r2 s1)) else (ow_bd (fX10_wrongs 1 (s1.1 0 24) s1) (fun _ s22 => clK r2 s22))))) := rfl
theorem clK_D {F r2 : Int32} {s : ow_S} (h : NDV s F) : clK r2 s = some ((), s) := by
  unfold clK
  rw [M_goodD h, bdS, if_pos rfl]
