/-! the reference reads: its small steps -/
def hr (tb : Nat → Nat) (n i : Nat) : Int32 := if i < n then nI (tb i) else 0
theorem hr_eq {tb : Nat → Nat} {n i L : Nat} {l : Int32} (hb : ∀ i, tb i < 256) (hl : l = nI L) (h0 : 0 < L) (h : L < 256) : (hr tb n i = l) ↔ cxN tb n i = L := by
  subst hl
  unfold hr cxN
  by_cases c : i < n
  · rw [if_pos c, if_pos c]
    exact nI_eq (by have := hb i; omega) (by omega)
  · rw [if_neg c, if_neg c]
    exact ⟨fun e => absurd (nI_inj (a := 0) (by decide) (by omega) e) (by omega), fun e => by omega⟩
def stk (N : Nat → Int32) : List Nat → Prop
  | [] => True
  | x :: r => N r.length = nI x ∧ stk N r
theorem stk_cg {N N' : Nat → Int32} : ∀ {st : List Nat}, stk N st → (∀ k, k < st.length → N' k = N k) → stk N' st
  | [], _, _ => trivial
  | x :: r, h, e => ⟨by rw [e r.length (by simp only [List.length_cons]; omega)]; exact h.1, stk_cg h.2 (fun k hk => e k (by simp only [List.length_cons]; omega))⟩
abbrev MV (tb : Nat → Nat) (n : Nat) (σ : ow_S) (i c : Nat) (st : List Nat) (d : Nat) : Prop := σ.1 0 24 = nI i ∧ σ.1 0 25 = nI n ∧ σ.1 0 26 = 0 ∧ σ.1 0 28 = nI c ∧ σ.1 0 29 = nI d ∧ σ.1 0 30 = nI st.length ∧ stk (σ.1 18) st ∧ ∀ k, k < 220 → σ.1 1 k &&& 255 = nI (tb k)
abbrev pslot (k : Nat) : Bool := k == 24 || k == 26 || k == 28 || k == 29 || k == 30 || k == 31 || k == 32
abbrev my (σ σ' : ow_S) : Prop := (∀ k, pslot k = false → σ'.1 0 k = σ.1 0 k) ∧ ∀ c, c ≠ 0 → c ≠ 16 → c ≠ 17 → c ≠ 18 → σ'.1 c = σ.1 c
theorem my_rf {σ : ow_S} : my σ σ := ⟨fun _ _ => rfl, fun _ _ _ _ _ => rfl⟩
theorem my_tr {a b c : ow_S} (h1 : my a b) (h2 : my b c) : my a c := ⟨fun k hk => (h2.1 k hk).trans (h1.1 k hk), fun q x y z w => (h2.2 q x y z w).trans (h1.2 q x y z w)⟩
theorem my_0 {σ : ow_S} {k : Nat} {v : Int32} (hk : pslot k = true) : my σ (ow_setI σ 0 k v) := ⟨fun j hj => by rw [gIs, if_neg (fun e => by rw [e, hk] at hj; cases hj)], fun c h0 _ _ _ => gIc _ _ _ _ _ h0⟩
theorem my_c {σ : ow_S} {q k : Nat} {v : Int32} (hq : q = 16 ∨ q = 17 ∨ q = 18) : my σ (ow_setI σ q k v) := ⟨fun j _ => by rw [gIn _ (by omega)], fun c _ h1 h2 h3 => gIc _ _ _ _ _ (by omega)⟩
/-- codes below c are as they were -/
abbrev lowc (σ σ' : ow_S) (c : Nat) : Prop := ∀ k, k < c → σ'.1 16 k = σ.1 16 k ∧ σ'.1 17 k = σ.1 17 k
theorem lowc_rf {σ : ow_S} {c : Nat} : lowc σ σ c := fun _ _ => ⟨rfl, rfl⟩
theorem lowc_tr {a b c : ow_S} {k m : Nat} (h1 : lowc a b k) (h2 : lowc b c m) (hk : k ≤ m) : lowc a c k := fun q hq => ⟨((h2 q (by omega)).1).trans (h1 q hq).1, ((h2 q (by omega)).2).trans (h1 q hq).2⟩
theorem lowc_0 {σ : ow_S} {k c : Nat} {v : Int32} : lowc σ (ow_setI σ 0 k v) c := fun q _ => ⟨by rw [gIn _ (by decide)], by rw [gIn _ (by decide)]⟩
theorem lowc_18 {σ : ow_S} {k c : Nat} {v : Int32} : lowc σ (ow_setI σ 18 k v) c := fun q _ => ⟨by rw [gIn _ (by decide)], by rw [gIn _ (by decide)]⟩
abbrev NDV (σ : ow_S) (F : Int32) : Prop := σ.1 0 26 = F ∧ F < 0
theorem M_here {tb : Nat → Nat} {n i c d : Nat} {st : List Nat} {σ : ow_S} (h : MV tb n σ i c st d) (hn : n ≤ 200) (hi : i ≤ n) : fX10_here σ = some (hr tb n i, σ) := by
  unfold fX10_here hr
  simp only [ow_lt, h.1, h.2.1]
  by_cases c : i < n
  · rw [if_neg (nI_ge c (by omega)), if_pos (ow_in_nI (show i < 220 by omega) (by decide)), nI_clamp (by omega), h.2.2.2.2.2.2.2 i (by omega), if_pos c]
  · rw [if_pos (nI_le (by omega) (by omega)), if_neg c]
theorem M_good {tb : Nat → Nat} {n i c d : Nat} {st : List Nat} {σ : ow_S} (h : MV tb n σ i c st d) : fX10_isGood σ = some (1, σ) := by
  unfold fX10_isGood
  simp only [ow_lt, h.2.2.1, if_true, is01_1]
theorem M_goodD {F : Int32} {σ : ow_S} (h : NDV σ F) : fX10_isGood σ = some (0, σ) := by
  unfold fX10_isGood
  simp only [ow_lt]
  rw [if_neg (by rw [h.1]; intro e; have := h.2; rw [e] at this; exact absurd this (by decide)), if_pos is01_0]
theorem M_goodZ {σ : ow_S} (h : ¬ σ.1 0 26 = 0) : fX10_isGood σ = some (0, σ) := by
  unfold fX10_isGood
  simp only [ow_lt]
  rw [if_neg h, if_pos is01_0]
theorem M_wrongs {tb : Nat → Nat} {n i c d k : Nat} {st : List Nat} {σ : ow_S} (h : MV tb n σ i c st d) : fX10_wrongs (nI k) (nI i) σ = some ((), ow_setI σ 0 26 (flt k i)) := by
  unfold fX10_wrongs
  simp only [ow_lt, h.2.2.1]
  rw [if_pos (show (0 : Int32) ≤ 0 by decide)]
  rfl
theorem M_bad {k i : Nat} {σ : ow_S} (h1 : 1 ≤ k) (h5 : k ≤ 5) (hi : i ≤ 200) : NDV (ow_setI σ 0 26 (flt k i)) (flt k i) := ⟨by rw [gIs, if_pos rfl], flt_neg h1 h5 hi⟩
theorem M_emit {tb : Nat → Nat} {n i c d : Nat} {st : List Nat} {x0 x1 : Int32} {σ : ow_S} (h : MV tb n σ i c st d) (hc : c < 200) : fX10_emit x0 x1 σ = some ((), ow_setI (ow_setI (ow_setI σ 16 c x0) 17 c x1) 0 28 (nI (c + 1))) := by
  unfold fX10_emit
  rw [M_good h, bdS, if_neg (by decide), h.2.2.2.1, if_pos (ow_in_nI hc (by decide)), ltE, nI_clamp (by omega), gIn _ (by decide), h.2.2.2.1, if_pos (ow_in_nI hc (by decide)), ltE, nI_clamp (by omega), gIn _ (by decide), gIn _ (by decide), h.2.2.2.1, nI_1, ltE]
theorem M_emitV {tb : Nat → Nat} {n i c d : Nat} {st : List Nat} {x0 x1 : Int32} {σ : ow_S} (h : MV tb n σ i c st d) : MV tb n (ow_setI (ow_setI (ow_setI σ 16 c x0) 17 c x1) 0 28 (nI (c + 1))) i (c + 1) st d := by
  obtain ⟨h1, h2, h3, h4, h5, h6, h7, h8⟩ := h
  refine ⟨?_, ?_, ?_, ?_, ?_, ?_, ?_, fun k hk => ?_⟩
  · rw [gIs, if_neg (by decide), gIn _ (by decide), gIn _ (by decide)]; exact h1
  · rw [gIs, if_neg (by decide), gIn _ (by decide), gIn _ (by decide)]; exact h2
  · rw [gIs, if_neg (by decide), gIn _ (by decide), gIn _ (by decide)]; exact h3
  · rw [gIs, if_pos rfl]
  · rw [gIs, if_neg (by decide), gIn _ (by decide), gIn _ (by decide)]; exact h5
  · rw [gIs, if_neg (by decide), gIn _ (by decide), gIn _ (by decide)]; exact h6
  · rw [gIc _ _ _ _ _ (by decide), gIc _ _ _ _ _ (by decide), gIc _ _ _ _ _ (by decide)]; exact h7
  · rw [gIn _ (by decide), gIn _ (by decide), gIn _ (by decide)]; exact h8 k hk
theorem M_emitC (σ : ow_S) (c q : Nat) (x0 x1 v : Int32) : (ow_setI (ow_setI (ow_setI σ 16 c x0) 17 c x1) 0 28 v).1 16 q = (if q = c then x0 else σ.1 16 q) ∧ (ow_setI (ow_setI (ow_setI σ 16 c x0) 17 c x1) 0 28 v).1 17 q = if q = c then x1 else σ.1 17 q := by
  refine ⟨by rw [gIn _ (by decide), gIn _ (by decide), gIs], ?_⟩
  rw [gIn _ (by decide), gIs]
  by_cases e : q = c
  · rw [if_pos e, if_pos e]
  · rw [if_neg e, if_neg e, gIn _ (by decide)]
theorem my_emit {σ : ow_S} {c : Nat} {x0 x1 v : Int32} : my σ (ow_setI (ow_setI (ow_setI σ 16 c x0) 17 c x1) 0 28 v) := my_tr (my_c (by decide)) (my_tr (my_c (by decide)) (my_0 rfl))
theorem lowc_emit {σ : ow_S} {c : Nat} {x0 x1 v : Int32} : lowc σ (ow_setI (ow_setI (ow_setI σ 16 c x0) 17 c x1) 0 28 v) c := fun q hq => ⟨by rw [(M_emitC σ c q x0 x1 v).1, if_neg (by omega)], by rw [(M_emitC σ c q x0 x1 v).2, if_neg (by omega)]⟩
def tp0 (st : List Nat) : Nat := match st with
  | [] => 0
  | x :: _ => x
theorem M_top {tb : Nat → Nat} {n i c d : Nat} {st : List Nat} {σ : ow_S} (h : MV tb n σ i c st d) (hl : st.length ≤ 240) : fX10_top σ = some (nI (tp0 st), σ) := by
  unfold fX10_top
  simp only [ow_lt, h.2.2.2.2.2.1]
  cases st with
  | nil => rw [if_pos (show nI ([] : List Nat).length ≤ 0 by decide)]; rfl
  | cons x r =>
    have e : nI (x :: r).length - 1 = nI r.length := by
      rw [List.length_cons, show (1 : Int32) = nI 1 from rfl, pk_sub (by omega)]
      rfl
    simp only [List.length_cons] at hl
    rw [if_neg (nI_nle (by simp only [List.length_cons]; omega) (by simp only [List.length_cons]; omega)), e, if_pos (ow_in_nI (show r.length < 240 by omega) (by decide)), nI_clamp (by omega), h.2.2.2.2.2.2.1.1]
    rfl
theorem M_pop {tb : Nat → Nat} {n i c d x : Nat} {r : List Nat} {σ : ow_S} (h : MV tb n σ i c (x :: r) d) : MV tb n (ow_setI σ 0 30 ((σ.1 0 30) - 1)) i c r d := by
  obtain ⟨h1, h2, h3, h4, h5, h6, h7, h8⟩ := h
  have e : (σ.1 0 30) - 1 = nI r.length := by
    rw [h6, List.length_cons, show (1 : Int32) = nI 1 from rfl, pk_sub (by omega)]
    rfl
  refine ⟨?_, ?_, ?_, ?_, ?_, ?_, ?_, fun k hk => ?_⟩
  · rw [gIs, if_neg (by decide)]; exact h1
  · rw [gIs, if_neg (by decide)]; exact h2
  · rw [gIs, if_neg (by decide)]; exact h3
  · rw [gIs, if_neg (by decide)]; exact h4
  · rw [gIs, if_neg (by decide)]; exact h5
  · rw [gIs, if_pos rfl, e]
  · rw [gIc _ _ _ _ _ (by decide)]; exact h7.2
  · rw [gIn _ (by decide)]; exact h8 k hk
theorem M_puts {tb : Nat → Nat} {n i c d x : Nat} {st : List Nat} {σ : ow_S} (h : MV tb n σ i c st d) (hl : st.length < 240) : ∃ σ', fX10_puts (nI x) σ = some ((), σ') ∧ MV tb n σ' (i + 1) c (x :: st) d ∧ my σ σ' ∧ (∀ k, lowc σ σ' k) ∧ σ'.1 0 31 = σ.1 0 31 ∧ σ'.1 0 32 = σ.1 0 32 := by
  obtain ⟨h1, h2, h3, h4, h5, h6, h7, h8⟩ := h
  refine ⟨ow_setI (ow_setI (ow_setI σ 18 st.length (nI x)) 0 30 (nI (st.length + 1))) 0 24 (nI (i + 1)), ?_, ?_, my_tr (my_c (by decide)) (my_tr (my_0 rfl) (my_0 rfl)), fun k => lowc_tr lowc_18 (lowc_tr (m := k) lowc_0 lowc_0 (Nat.le_refl k)) (Nat.le_refl k), ?_, ?_⟩
  · unfold fX10_puts
    rw [h6, if_pos (ow_in_nI hl (by decide)), ltE, nI_clamp (by omega), gIn _ (by decide), h6, ltE, nI_1, gIs, if_neg (by decide), gIn _ (by decide), h1, ltE, nI_1]
  · refine ⟨?_, ?_, ?_, ?_, ?_, ?_, ?_, fun k hk => ?_⟩
    · rw [gIs, if_pos rfl]
    · rw [gIs, if_neg (by decide), gIs, if_neg (by decide), gIn _ (by decide)]; exact h2
    · rw [gIs, if_neg (by decide), gIs, if_neg (by decide), gIn _ (by decide)]; exact h3
    · rw [gIs, if_neg (by decide), gIs, if_neg (by decide), gIn _ (by decide)]; exact h4
    · rw [gIs, if_neg (by decide), gIs, if_neg (by decide), gIn _ (by decide)]; exact h5
    · rw [gIs, if_neg (by decide), gIs, if_pos rfl]; rfl
    · rw [gIc _ _ _ _ _ (by decide), gIc _ _ _ _ _ (by decide)]
      exact ⟨by rw [gIs, if_pos rfl], stk_cg h7 (fun k hk => by rw [gIs, if_neg (by omega)])⟩
    · rw [gIn _ (by decide), gIn _ (by decide), gIn _ (by decide)]; exact h8 k hk
  · rw [gIs, if_neg (by decide), gIs, if_neg (by decide), gIn _ (by decide)]
  · rw [gIs, if_neg (by decide), gIs, if_neg (by decide), gIn _ (by decide)]
theorem M_setS {tb : Nat → Nat} {n i c d k : Nat} {st : List Nat} {v : Int32} {σ : ow_S} (h : MV tb n σ i c st d) (hk : k = 31 ∨ k = 32) : MV tb n (ow_setI σ 0 k v) i c st d := by
  obtain ⟨h1, h2, h3, h4, h5, h6, h7, h8⟩ := h
  refine ⟨?_, ?_, ?_, ?_, ?_, ?_, ?_, fun k hk => ?_⟩
  · rw [gIs, if_neg (by omega)]; exact h1
  · rw [gIs, if_neg (by omega)]; exact h2
  · rw [gIs, if_neg (by omega)]; exact h3
  · rw [gIs, if_neg (by omega)]; exact h4
  · rw [gIs, if_neg (by omega)]; exact h5
  · rw [gIs, if_neg (by omega)]; exact h6
  · rw [gIc _ _ _ _ _ (by decide)]; exact h7
  · rw [gIn _ (by decide)]; exact h8 k hk
theorem M_go {tb : Nat → Nat} {n i c d j : Nat} {st : List Nat} {σ : ow_S} (h : MV tb n σ i c st d) : MV tb n (ow_setI σ 0 24 (nI j)) j c st d := by
  obtain ⟨h1, h2, h3, h4, h5, h6, h7, h8⟩ := h
  refine ⟨?_, ?_, ?_, ?_, ?_, ?_, ?_, fun k hk => ?_⟩
  · rw [gIs, if_pos rfl]
  · rw [gIs, if_neg (by decide)]; exact h2
  · rw [gIs, if_neg (by decide)]; exact h3
  · rw [gIs, if_neg (by decide)]; exact h4
  · rw [gIs, if_neg (by decide)]; exact h5
  · rw [gIs, if_neg (by decide)]; exact h6
  · rw [gIc _ _ _ _ _ (by decide)]; exact h7
  · rw [gIn _ (by decide)]; exact h8 k hk
theorem M_dep {tb : Nat → Nat} {n i c d e : Nat} {st : List Nat} {σ : ow_S} (h : MV tb n σ i c st d) : MV tb n (ow_setI σ 0 29 (nI e)) i c st e := by
  obtain ⟨h1, h2, h3, h4, h5, h6, h7, h8⟩ := h
  refine ⟨?_, ?_, ?_, ?_, ?_, ?_, ?_, fun k hk => ?_⟩
  · rw [gIs, if_neg (by decide)]; exact h1
  · rw [gIs, if_neg (by decide)]; exact h2
  · rw [gIs, if_neg (by decide)]; exact h3
  · rw [gIs, if_neg (by decide)]; exact h4
  · rw [gIs, if_pos rfl]
  · rw [gIs, if_neg (by decide)]; exact h6
  · rw [gIc _ _ _ _ _ (by decide)]; exact h7
  · rw [gIn _ (by decide)]; exact h8 k hk
theorem M_opens {tb : Nat → Nat} {n i c d : Nat} {st : List Nat} {σ : ow_S} (hn : n ≤ 200) (h : MV tb n σ i c st d) (hi : i < n) (hl : st.length < 240) (hd : d < 6) : ∃ σ', fX10_opens σ = some ((), σ') ∧ MV tb n σ' (i + 1) c (cxN tb n i :: st) (d + 1) ∧ my σ σ' ∧ (∀ k, lowc σ σ' k) ∧ σ'.1 0 31 = σ.1 0 31 ∧ σ'.1 0 32 = σ.1 0 32 := by
  have h2 : MV tb n (ow_setI σ 0 29 (nI (d + 1))) i c st (d + 1) := M_dep h
  obtain ⟨s1, a1, a2, a3, a4, a5, a6⟩ := M_puts (x := tb i) h2 hl
  refine ⟨s1, ?_, ?_, my_tr (my_0 rfl) a3, fun k => lowc_tr lowc_0 (a4 k) (Nat.le_refl k), ?_, ?_⟩
  · unfold fX10_opens
    simp only [ow_lt]
    have e : hr tb n i = nI (tb i) := by unfold hr; rw [if_pos hi]
    rw [h.2.2.2.2.1, if_neg (show ¬ nI d = 6 from fun e => by have := nI_inj (b := 6) (by omega) (by decide) e; omega), nI_1, M_here h2 hn (by omega), bdS, e, a1, bdS]
  · have e : cxN tb n i = tb i := by unfold cxN; rw [if_pos hi]
    rw [e]
    exact a2
  · rw [a5, gIs, if_neg (by decide)]
  · rw [a6, gIs, if_neg (by decide)]
theorem M_putsR {L i : Nat} {x : Int32} {s : ow_S} (h : s.1 0 30 = nI L) (hL : L < 240) (h1 : s.1 0 24 = nI i) : fX10_puts x s = some ((), ow_setI (ow_setI (ow_setI s 18 L x) 0 30 (nI (L + 1))) 0 24 (nI (i + 1))) := by
  unfold fX10_puts
  rw [h, if_pos (ow_in_nI hL (by decide)), ltE, nI_clamp (by omega), gIn _ (by decide), h, ltE, nI_1, gIs, if_neg (by decide), gIn _ (by decide), h1, ltE, nI_1]
theorem M_opens6 {tb : Nat → Nat} {n i c : Nat} {st : List Nat} {σ : ow_S} (hn : n ≤ 200) (h : MV tb n σ i c st 6) (hi : i < n) (hl : st.length < 240) : ∃ σ', fX10_opens σ = some ((), σ') ∧ NDV σ' (flt 5 i) ∧ my σ σ' ∧ σ'.1 0 32 = σ.1 0 32 := by
  obtain ⟨h1, h2, h3, h4, h5, h6, h7, h8⟩ := id h
  have hw := M_wrongs (k := 5) h
  have hw' : fX10_wrongs 5 (nI i) σ = some ((), ow_setI σ 0 26 (flt 5 i)) := hw
  have hh : fX10_here (ow_setI (ow_setI σ 0 26 (flt 5 i)) 0 29 (nI 7)) = some (nI (tb i), ow_setI (ow_setI σ 0 26 (flt 5 i)) 0 29 (nI 7)) := by
    have e24 : (ow_setI (ow_setI σ 0 26 (flt 5 i)) 0 29 (nI 7)).1 0 24 = nI i := by rw [gIs, if_neg (by decide), gIs, if_neg (by decide)]; exact h1
    have e25 : (ow_setI (ow_setI σ 0 26 (flt 5 i)) 0 29 (nI 7)).1 0 25 = nI n := by rw [gIs, if_neg (by decide), gIs, if_neg (by decide)]; exact h2
    unfold fX10_here
    simp only [ow_lt, e24, e25]
    rw [if_neg (nI_ge hi (by omega)), if_pos (ow_in_nI (show i < 220 by omega) (by decide)), nI_clamp (by omega), gIn _ (by decide), gIn _ (by decide), h8 i (by omega)]
  refine ⟨ow_setI (ow_setI (ow_setI (ow_setI (ow_setI σ 0 26 (flt 5 i)) 0 29 (nI 7)) 18 st.length (nI (tb i))) 0 30 (nI (st.length + 1))) 0 24 (nI (i + 1)), ?_, ⟨?_, flt_neg (by decide) (by decide) (by omega)⟩, my_tr (my_0 rfl) (my_tr (my_0 rfl) (my_tr (my_c (by decide)) (my_tr (my_0 rfl) (my_0 rfl)))), ?_⟩
  · unfold fX10_opens
    simp only [ow_lt]
    rw [h5, if_pos (show nI 6 = 6 from rfl), h1, hw', bdS]
    rw [gIs, if_neg (by decide), h5, show nI 6 + 1 = nI 7 from rfl, hh, bdS]
    rw [M_putsR (L := st.length) (i := i) (by rw [gIs, if_neg (by decide), gIs, if_neg (by decide)]; exact h6) hl (by rw [gIs, if_neg (by decide), gIs, if_neg (by decide)]; exact h1), bdS]
  · rw [gIs, if_neg (by decide), gIs, if_neg (by decide), gIn _ (by decide), gIs, if_neg (by decide), gIs, if_pos rfl]
  · rw [gIs, if_neg (by decide), gIs, if_neg (by decide), gIn _ (by decide), gIs, if_neg (by decide), gIs, if_neg (by decide)]
/-! pieces of the reference's codes -/
theorem mR_add {Cd Ar : Nat → Int32} {env : aE} : ∀ (x y i : Nat) (st : mSt), mR Cd Ar env (x + y) i st = (mR Cd Ar env x i st).bind (mR Cd Ar env y (i + x))
  | 0, y, i, st => by rw [Nat.zero_add]; rfl
  | x + 1, y, i, st => by
    rw [show x + 1 + y = (x + y) + 1 by omega]
    show (mS (Cd i) (Ar i) env st).bind (mR Cd Ar env (x + y) (i + 1)) = ((mS (Cd i) (Ar i) env st).bind (mR Cd Ar env x (i + 1))).bind (mR Cd Ar env y (i + (x + 1)))
    cases mS (Cd i) (Ar i) env st with
    | none => rfl
    | some z =>
      show mR Cd Ar env (x + y) (i + 1) z = (mR Cd Ar env x (i + 1) z).bind (mR Cd Ar env y (i + (x + 1)))
      rw [mR_add x y (i + 1) z, show i + 1 + x = i + (x + 1) by omega]
theorem mR_cg {Cd Ar Cd' Ar' : Nat → Int32} {env : aE} : ∀ (x i : Nat) (st : mSt), (∀ k, i ≤ k → k < i + x → Cd' k = Cd k ∧ Ar' k = Ar k) → mR Cd' Ar' env x i st = mR Cd Ar env x i st
  | 0, _, _, _ => rfl
  | x + 1, i, st, h => by
    show (mS (Cd' i) (Ar' i) env st).bind (mR Cd' Ar' env x (i + 1)) = (mS (Cd i) (Ar i) env st).bind (mR Cd Ar env x (i + 1))
    rw [(h i (Nat.le_refl _) (by omega)).1, (h i (Nat.le_refl _) (by omega)).2]
    congr 1
    funext z
    exact mR_cg x (i + 1) z (fun k a b => h k (by omega) (by omega))
theorem sgM_cg {Cd Ar Cd' Ar' : Nat → Int32} {a b : Nat} {V : aV} (h : sgM Cd Ar a b V) (e : ∀ k, a ≤ k → k < b → Cd' k = Cd k ∧ Ar' k = Ar k) : sgM Cd' Ar' a b V := by
  refine ⟨h.1, fun env st => ?_⟩
  have hab := h.1
  rw [mR_cg (b - a) a st (fun k x y => e k x (by omega))]
  exact h.2 env st
theorem sgM_num {Cd Ar : Nat → Int32} {c : Nat} {v : Int32} (h1 : Cd c = 0) (h2 : Ar c = v) : sgM Cd Ar c (c + 1) (fun _ => some v) := by
  refine ⟨by omega, fun env st => ⟨v, false, ?_, rfl, rfl⟩⟩
  rw [show c + 1 - c = 0 + 1 by omega]
  show (mS (Cd c) (Ar c) env st).bind (mR Cd Ar env 0 (c + 1)) = _
  rw [h1, h2]
  rfl
theorem sgM_let {Cd Ar : Nat → Int32} {c v : Nat} (hv : 97 ≤ v ∧ v ≤ 122) (h1 : Cd c = 1) (h2 : Ar c = nI v) : sgM Cd Ar c (c + 1) (fun env => some (env (v - 97))) := by
  refine ⟨by omega, fun env st => ⟨env (v - 97), false, ?_, rfl, rfl⟩⟩
  rw [show c + 1 - c = 0 + 1 by omega]
  show (mS (Cd c) (Ar c) env st).bind (mR Cd Ar env 0 (c + 1)) = _
  rw [h1, h2]
  unfold mS
  have hr : inR 97 122 (nI v) = true := by
    rw [inR_t, nI_toInt (by omega)]
    omega
  rw [if_pos (show (1 : Int32) ≤ 2 by decide), if_neg (show ¬ (1 : Int32) = 2 by decide), if_neg (show ¬ (1 : Int32) = 0 by decide), if_pos hr, show (97 : Int32) = nI 97 from rfl, pk_sub hv.1, nI_clamp (by omega)]
  rfl
theorem sgM_two {Cd Ar : Nat → Int32} {a b c : Nat} {V1 V2 W : aV} (h1 : sgM Cd Ar a b V1) (h2 : sgM Cd Ar b c V2) (hW : ∀ (env : aE) (st : mSt) (v1 v2 : Int32) (r1 r2 : Bool), (match V1 env with | some w => r1 = false ∧ v1 = w | none => r1 = true) → (match V2 env with | some w => r2 = false ∧ v2 = w | none => r2 = true) → ∃ v r, mS (Cd c) (Ar c) env ((v2, r2) :: (v1, r1) :: st) = some ((v, r) :: st) ∧ (match W env with | some w => r = false ∧ v = w | none => r = true)) : sgM Cd Ar a (c + 1) W := by
  have hab := h1.1
  have hbc := h2.1
  refine ⟨by omega, fun env st => ?_⟩
  obtain ⟨v1, r1, e1, g1⟩ := h1.2 env st
  obtain ⟨v2, r2, e2, g2⟩ := h2.2 env ((v1, r1) :: st)
  obtain ⟨v, r, e3, g3⟩ := hW env st v1 v2 r1 r2 g1 g2
  refine ⟨v, r, ?_, g3⟩
  rw [show c + 1 - a = (b - a) + ((c - b) + 1) by omega, mR_add, e1, Option.bind_some, show a + (b - a) = b by omega, mR_add, e2, Option.bind_some, show b + (c - b) = c by omega]
  show (mS (Cd c) (Ar c) env ((v2, r2) :: (v1, r1) :: st)).bind (mR Cd Ar env 0 (c + 1)) = _
  rw [e3]
  rfl
theorem sgM_bin {Cd Ar : Nat → Int32} {a b c ch : Nat} {V1 V2 : aV} (h1 : sgM Cd Ar a b V1) (h2 : sgM Cd Ar b c V2) (hc : Cd c = nI ch) (hs : isTm ch ∨ isPl ch ∨ isSg ch) : sgM Cd Ar a (c + 1) (vJ ch V1 V2) := by
  refine sgM_two h1 h2 (fun env st v1 v2 r1 r2 g1 g2 => ?_)
  have n1 : ¬ nI ch ≤ 2 := by
    have : 2 < ch := by rcases hs with (h | h | h) | (h | h) | (h | h | h) <;> omega
    exact nI_ge (a := 2) this (by rcases hs with (h | h | h) | (h | h) | (h | h | h) <;> omega)
  have hlt : ch < 256 := by rcases hs with (h | h | h) | (h | h) | (h | h | h) <;> omega
  have n2 : ¬ (nI ch = 38 ∨ nI ch = 124) := by
    rintro (e | e)
    · have := nI_inj (b := 38) (by omega) (by decide) e
      rcases hs with (h | h | h) | (h | h) | (h | h | h) <;> omega
    · have := nI_inj (b := 124) (by omega) (by decide) e
      rcases hs with (h | h | h) | (h | h) | (h | h | h) <;> omega
  have e47 : (nI ch == 47) = decide (ch = 47) := by
    have : (nI ch = 47) ↔ ch = 47 := nI_eq (b := 47) (by omega) (by decide)
    rw [Bool.eq_iff_iff, beq_iff_eq, decide_eq_true_eq]
    exact this
  have e37 : (nI ch == 37) = decide (ch = 37) := by
    have : (nI ch = 37) ↔ ch = 37 := nI_eq (b := 37) (by omega) (by decide)
    rw [Bool.eq_iff_iff, beq_iff_eq, decide_eq_true_eq]
    exact this
  refine ⟨mV (nI ch) v1 v2, r1 || r2 || ((nI ch == 47 || nI ch == 37) && v2 == 0), ?_, ?_⟩
  · rw [hc]
    unfold mS
    rw [if_neg n1]
    dsimp only
    rw [if_neg n2]
  · unfold vJ
    rw [e47, e37]
    cases hv1 : V1 env with
    | none =>
      rw [hv1] at g1
      have e : r1 = true := g1
      rw [e]
      rfl
    | some w1 =>
      rw [hv1] at g1
      obtain ⟨e1, e1'⟩ := g1
      subst e1 e1'
      cases hv2 : V2 env with
      | none =>
        rw [hv2] at g2
        have e : r2 = true := g2
        rw [e]
        rfl
      | some w2 =>
        rw [hv2] at g2
        obtain ⟨e2, e2'⟩ := g2
        subst e2 e2'
        dsimp only
        by_cases z : (ch = 47 ∨ ch = 37) ∧ v2 = 0
        · rw [if_pos z]
          obtain ⟨z1, z2⟩ := z
          rcases z1 with z1 | z1 <;> simp [z1, z2]
        · rw [if_neg z]
          refine ⟨?_, rfl⟩
          by_cases a1 : ch = 47
          · have : ¬ v2 = 0 := fun e => z ⟨Or.inl a1, e⟩
            simp [this]
          · by_cases a2 : ch = 37
            · have : ¬ v2 = 0 := fun e => z ⟨Or.inr a2, e⟩
              simp [this]
            · simp [a1, a2]
theorem sgM_and {Cd Ar : Nat → Int32} {a b c : Nat} {V1 V2 : aV} (h1 : sgM Cd Ar a b V1) (h2 : sgM Cd Ar b c V2) (hc : Cd c = nI 38) : sgM Cd Ar a (c + 1) (vAnd V1 V2) := by
  refine sgM_two h1 h2 (fun env st v1 v2 r1 r2 g1 g2 => ?_)
  rw [hc]
  unfold mS
  rw [if_neg (show ¬ nI 38 ≤ 2 by decide)]
  dsimp only
  rw [if_pos (show nI 38 = 38 ∨ nI 38 = 124 from Or.inl rfl), if_pos (show nI 38 = 38 from rfl)]
  unfold vAnd
  cases hv1 : V1 env with
  | none =>
    rw [hv1] at g1
    have e : r1 = true := g1
    rw [e]
    exact ⟨v1, true, rfl, rfl⟩
  | some w1 =>
    rw [hv1] at g1
    obtain ⟨e1, e1'⟩ := g1
    subst e1 e1'
    dsimp only
    by_cases z : v1 = 1
    · rw [if_pos ⟨rfl, z⟩, if_pos z]
      exact ⟨v2, r2, rfl, g2⟩
    · rw [if_neg (fun h => z h.2), if_neg z]
      exact ⟨v1, false, rfl, rfl, rfl⟩
theorem sgM_or {Cd Ar : Nat → Int32} {a b c : Nat} {V1 V2 : aV} (h1 : sgM Cd Ar a b V1) (h2 : sgM Cd Ar b c V2) (hc : Cd c = nI 124) : sgM Cd Ar a (c + 1) (vOr V1 V2) := by
  refine sgM_two h1 h2 (fun env st v1 v2 r1 r2 g1 g2 => ?_)
  rw [hc]
  unfold mS
  rw [if_neg (show ¬ nI 124 ≤ 2 by decide)]
  dsimp only
  rw [if_pos (show nI 124 = 38 ∨ nI 124 = 124 from Or.inr rfl), if_neg (show ¬ nI 124 = 38 by decide)]
  unfold vOr
  cases hv1 : V1 env with
  | none =>
    rw [hv1] at g1
    have e : r1 = true := g1
    rw [e]
    exact ⟨v1, true, rfl, rfl⟩
  | some w1 =>
    rw [hv1] at g1
    obtain ⟨e1, e1'⟩ := g1
    subst e1 e1'
    dsimp only
    by_cases z : v1 = 0
    · rw [if_pos ⟨rfl, z⟩, if_pos z]
      exact ⟨v2, r2, rfl, g2⟩
    · rw [if_neg (fun h => z h.2), if_neg z]
      exact ⟨v1, false, rfl, rfl, rfl⟩
theorem sgM_not {Cd Ar : Nat → Int32} {a c : Nat} {V : aV} (h1 : sgM Cd Ar a c V) (hc : Cd c = 2) : sgM Cd Ar a (c + 1) (vNot V) := by
  have hab := h1.1
  refine ⟨by omega, fun env st => ?_⟩
  obtain ⟨v1, r1, e1, g1⟩ := h1.2 env st
  refine ⟨1 - v1, r1, ?_, ?_⟩
  · rw [show c + 1 - a = (c - a) + 1 by omega, mR_add, e1, Option.bind_some, show a + (c - a) = c by omega]
    show (mS (Cd c) (Ar c) env ((v1, r1) :: st)).bind (mR Cd Ar env 0 (c + 1)) = _
    rw [hc]
    rfl
  · unfold vNot
    cases hv1 : V env with
    | none => rw [hv1] at g1; exact g1
    | some w =>
      rw [hv1] at g1
      exact ⟨g1.1, by rw [g1.2]⟩
