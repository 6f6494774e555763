/-! loops; the class's sets of worlds, word by word -/
theorem lp {β τ : Type} {F : Nat → Int32 → β → Option τ} {Inv : Nat → β → Prop} {Q : Option τ → Prop} (N : Nat)
    (step : ∀ m i b, i < N → Inv i b → Q (F (m + 1) (nI i) b) ∨ ∃ b', F (m + 1) (nI i) b = F m (nI (i + 1)) b' ∧ Inv (i + 1) b')
    (last : ∀ m b, Inv N b → Q (F (m + 1) (nI N) b)) : ∀ (d i fuel : Nat) (b : β), i + d = N → d < fuel → Inv i b → Q (F fuel (nI i) b) := by
  intro d
  induction d with
  | zero =>
    intro i fuel b hi hf h
    obtain ⟨fuel, rfl⟩ : ∃ z, fuel = z + 1 := ⟨fuel - 1, by omega⟩
    have e : i = N := by omega
    subst e
    exact last fuel b h
  | succ d ih =>
    intro i fuel b hi hf h
    obtain ⟨fuel, rfl⟩ : ∃ z, fuel = z + 1 := ⟨fuel - 1, by omega⟩
    rcases step fuel i b (by omega) h with g | ⟨b', g1, g2⟩
    · exact g
    · rw [g1]
      exact ih (i + 1) fuel b' (by omega) (by omega) g2
theorem i_nle {a i N : Nat} (e : N = a) (h : i < N) (hN : N < 2 ^ 31) : ¬ nI a ≤ nI i := by subst e; exact nI_ge h hN
def xw (C : Nat) (σ σ' : ow_S) : Prop := σ'.1 = σ.1 ∧ ∀ c, c ≠ C → σ'.2 c = σ.2 c
theorem xw.rf {C : Nat} {σ : ow_S} : xw C σ σ := ⟨rfl, fun _ _ => rfl⟩
theorem xw.tr {C : Nat} {a b c : ow_S} (h1 : xw C a b) (h2 : xw C b c) : xw C a c := ⟨h2.1.trans h1.1, fun i g => (h2.2 i g).trans (h1.2 i g)⟩
theorem xw.st {C : Nat} {σ σ1 : ow_S} (h : xw C σ σ1) {i : Nat} {x : Int64} : xw C σ (ow_setL σ1 C i x) := ⟨h.1, fun c hc => by
  rw [← h.2 c hc]
  funext m
  rw [gL, if_neg hc]⟩
theorem xw.xe {C : Nat} {σ σ' : ow_S} (h : xw C σ σ') (hC : xper C = false) : xeq σ σ' := ⟨fun c _ => by rw [h.1], fun c hc => h.2 c (fun e => by rw [e, hC] at hc; cases hc)⟩
def wT (i : Nat) (W W' : Nat → Bool) (ws : Nat → Int64) : Prop := ∀ k, k < 16 → ∀ j, j < 64 → wb (ws k) j = if k < i then W' (64 * k + j) else W (64 * k + j)
theorem wT.zr {W W' : Nat → Bool} {ws : Nat → Int64} (h : wS W ws) : wT 0 W W' ws := fun k hk j hj => by rw [if_neg (by omega)]; exact h k hk j hj
theorem wT.en {W W' : Nat → Bool} {ws : Nat → Int64} (h : wT 16 W W' ws) : wS W' ws := fun k hk j hj => by rw [h k hk j hj, if_pos hk]
theorem wT.st {C i : Nat} {W W' : Nat → Bool} {σ : ow_S} {x : Int64} (h : wT i W W' (σ.2 C)) (hx : ∀ j, j < 64 → wb x j = W' (64 * i + j)) : wT (i + 1) W W' ((ow_setL σ C i x).2 C) := fun k hk j hj => by
  rw [gL, if_pos rfl]
  by_cases e : k = i
  · rw [if_pos e, if_pos (by omega), hx j hj, e]
  · rw [if_neg e, h k hk j hj]
    by_cases e2 : k < i
    · rw [if_pos e2, if_pos (by omega)]
    · rw [if_neg e2, if_neg (by omega)]
theorem wT.at {i : Nat} {W W' : Nat → Bool} {ws : Nat → Int64} (h : wT i W W' ws) (hi : i < 16) {j : Nat} (hj : j < 64) : wb (ws i) j = W (64 * i + j) := by rw [h i hi j hj, if_neg (by omega)]
theorem wS.cg {W W' : Nat → Bool} {ws : Nat → Int64} (h : wS W ws) (e : ∀ v, v < 1024 → W v = W' v) : wS W' ws := fun i hi j hj => by rw [h i hi j hj, e _ (by omega)]
theorem b64 {P : Nat → Bool} {i : Nat} (h1 : ∀ w, w < 64 * i → P w = false) (h2 : ∀ j, j < 64 → P (64 * i + j) = false) : ∀ w, w < 64 * (i + 1) → P w = false := fun w hw => by
  by_cases h : w < 64 * i
  · exact h1 w h
  · obtain ⟨j, rfl⟩ := Nat.exists_eq_add_of_le (show 64 * i ≤ w by omega)
    exact h2 j (by omega)
theorem e16 : (16 : Int32) = nI 16 := rfl
theorem X_clear_30 {W : Nat → Bool}  {σ : ow_S} (h : wS W (σ.2 31)) : ∃ σ', fX8_clear_30  σ = some ((), σ') ∧ xw 31 σ σ' ∧ wS (fun _ => false) (σ'.2 31) := by
  unfold fX8_clear_30
  refine lp (F := fX8_clear_30_l2 ) (Inv := fun i s => xw 31 σ s ∧ wT i W (fun _ => false) (s.2 31)) (Q := fun r => ∃ σ', r = some ((), σ') ∧ xw 31 σ σ' ∧ wS (fun _ => false) (σ'.2 31)) 16 ?_ ?_ 16 0 ow_FU σ rfl (by decide) ⟨xw.rf, wT.zr h⟩
  · intro m i s hi ⟨h1, h2⟩
    refine Or.inr ⟨ow_setL s 31 i (0), ?_, h1.st, h2.st (fun j hj => ?_)⟩
    · rw [fX8_clear_30_l2]
      simp only [e16, nI_ge hi (show (16 : Nat) < 2 ^ 31 by decide), if_false, ow_in_nI hi (show (16 : Nat) < 2 ^ 31 by decide), if_true, ow_bd, ow_lt, Option.bind_some, nI_clamp (show i < 2 ^ 31 by omega), nI_1]
    · exact wb_0 j
  · intro m s ⟨h1, h2⟩
    refine ⟨s, ?_, h1, h2.en⟩
    rw [fX8_clear_30_l2]
    rw [if_pos (show (16 : Int32) ≤ nI 16 from nI_le (Nat.le_refl 16) (by decide))]
theorem X_copy_32_30 {W : Nat → Bool} {W2 : Nat → Bool} {σ : ow_S} (h : wS W (σ.2 33)) (h0 : wS W2 (σ.2 31)) : ∃ σ', fX8_copy_32_30  σ = some ((), σ') ∧ xw 33 σ σ' ∧ wS (W2) (σ'.2 33) := by
  unfold fX8_copy_32_30
  refine lp (F := fX8_copy_32_30_l2 ) (Inv := fun i s => xw 33 σ s ∧ wT i W (W2) (s.2 33)) (Q := fun r => ∃ σ', r = some ((), σ') ∧ xw 33 σ σ' ∧ wS (W2) (σ'.2 33)) 16 ?_ ?_ 16 0 ow_FU σ rfl (by decide) ⟨xw.rf, wT.zr h⟩
  · intro m i s hi ⟨h1, h2⟩
    refine Or.inr ⟨ow_setL s 33 i (s.2 31 i), ?_, h1.st, h2.st (fun j hj => ?_)⟩
    · rw [fX8_copy_32_30_l2]
      simp only [e16, nI_ge hi (show (16 : Nat) < 2 ^ 31 by decide), if_false, ow_in_nI hi (show (16 : Nat) < 2 ^ 31 by decide), if_true, ow_bd, ow_lt, Option.bind_some, nI_clamp (show i < 2 ^ 31 by omega), nI_1]
    · rw [h1.2 31 (by decide)]; exact h0 i hi j hj
  · intro m s ⟨h1, h2⟩
    refine ⟨s, ?_, h1, h2.en⟩
    rw [fX8_copy_32_30_l2]
    rw [if_pos (show (16 : Int32) ≤ nI 16 from nI_le (Nat.le_refl 16) (by decide))]
theorem X_copy_34_32 {W : Nat → Bool} {W2 : Nat → Bool} {σ : ow_S} (h : wS W (σ.2 35)) (h0 : wS W2 (σ.2 33)) : ∃ σ', fX8_copy_34_32  σ = some ((), σ') ∧ xw 35 σ σ' ∧ wS (W2) (σ'.2 35) := by
  unfold fX8_copy_34_32
  refine lp (F := fX8_copy_34_32_l2 ) (Inv := fun i s => xw 35 σ s ∧ wT i W (W2) (s.2 35)) (Q := fun r => ∃ σ', r = some ((), σ') ∧ xw 35 σ σ' ∧ wS (W2) (σ'.2 35)) 16 ?_ ?_ 16 0 ow_FU σ rfl (by decide) ⟨xw.rf, wT.zr h⟩
  · intro m i s hi ⟨h1, h2⟩
    refine Or.inr ⟨ow_setL s 35 i (s.2 33 i), ?_, h1.st, h2.st (fun j hj => ?_)⟩
    · rw [fX8_copy_34_32_l2]
      simp only [e16, nI_ge hi (show (16 : Nat) < 2 ^ 31 by decide), if_false, ow_in_nI hi (show (16 : Nat) < 2 ^ 31 by decide), if_true, ow_bd, ow_lt, Option.bind_some, nI_clamp (show i < 2 ^ 31 by omega), nI_1]
    · rw [h1.2 33 (by decide)]; exact h0 i hi j hj
  · intro m s ⟨h1, h2⟩
    refine ⟨s, ?_, h1, h2.en⟩
    rw [fX8_copy_34_32_l2]
    rw [if_pos (show (16 : Int32) ≤ nI 16 from nI_le (Nat.le_refl 16) (by decide))]
theorem X_copy_24_32 {W : Nat → Bool} {W2 : Nat → Bool} {σ : ow_S} (h : wS W (σ.2 25)) (h0 : wS W2 (σ.2 33)) : ∃ σ', fX8_copy_24_32  σ = some ((), σ') ∧ xw 25 σ σ' ∧ wS (W2) (σ'.2 25) := by
  unfold fX8_copy_24_32
  refine lp (F := fX8_copy_24_32_l2 ) (Inv := fun i s => xw 25 σ s ∧ wT i W (W2) (s.2 25)) (Q := fun r => ∃ σ', r = some ((), σ') ∧ xw 25 σ σ' ∧ wS (W2) (σ'.2 25)) 16 ?_ ?_ 16 0 ow_FU σ rfl (by decide) ⟨xw.rf, wT.zr h⟩
  · intro m i s hi ⟨h1, h2⟩
    refine Or.inr ⟨ow_setL s 25 i (s.2 33 i), ?_, h1.st, h2.st (fun j hj => ?_)⟩
    · rw [fX8_copy_24_32_l2]
      simp only [e16, nI_ge hi (show (16 : Nat) < 2 ^ 31 by decide), if_false, ow_in_nI hi (show (16 : Nat) < 2 ^ 31 by decide), if_true, ow_bd, ow_lt, Option.bind_some, nI_clamp (show i < 2 ^ 31 by omega), nI_1]
    · rw [h1.2 33 (by decide)]; exact h0 i hi j hj
  · intro m s ⟨h1, h2⟩
    refine ⟨s, ?_, h1, h2.en⟩
    rw [fX8_copy_24_32_l2]
    rw [if_pos (show (16 : Int32) ≤ nI 16 from nI_le (Nat.le_refl 16) (by decide))]
theorem X_copy_34_30 {W : Nat → Bool} {W2 : Nat → Bool} {σ : ow_S} (h : wS W (σ.2 35)) (h0 : wS W2 (σ.2 31)) : ∃ σ', fX8_copy_34_30  σ = some ((), σ') ∧ xw 35 σ σ' ∧ wS (W2) (σ'.2 35) := by
  unfold fX8_copy_34_30
  refine lp (F := fX8_copy_34_30_l2 ) (Inv := fun i s => xw 35 σ s ∧ wT i W (W2) (s.2 35)) (Q := fun r => ∃ σ', r = some ((), σ') ∧ xw 35 σ σ' ∧ wS (W2) (σ'.2 35)) 16 ?_ ?_ 16 0 ow_FU σ rfl (by decide) ⟨xw.rf, wT.zr h⟩
  · intro m i s hi ⟨h1, h2⟩
    refine Or.inr ⟨ow_setL s 35 i (s.2 31 i), ?_, h1.st, h2.st (fun j hj => ?_)⟩
    · rw [fX8_copy_34_30_l2]
      simp only [e16, nI_ge hi (show (16 : Nat) < 2 ^ 31 by decide), if_false, ow_in_nI hi (show (16 : Nat) < 2 ^ 31 by decide), if_true, ow_bd, ow_lt, Option.bind_some, nI_clamp (show i < 2 ^ 31 by omega), nI_1]
    · rw [h1.2 31 (by decide)]; exact h0 i hi j hj
  · intro m s ⟨h1, h2⟩
    refine ⟨s, ?_, h1, h2.en⟩
    rw [fX8_copy_34_30_l2]
    rw [if_pos (show (16 : Int32) ≤ nI 16 from nI_le (Nat.le_refl 16) (by decide))]
theorem X_keep_32 {W : Nat → Bool} {f : Nat} {v : Bool} {σ : ow_S} (h : wS W (σ.2 33)) (hf : f < 10) : ∃ σ', fX8_keep_32 (nI f) (bi v) σ = some ((), σ') ∧ xw 33 σ σ' ∧ wS (fun w => W w && (bt w f == v)) (σ'.2 33) := by
  unfold fX8_keep_32
  refine lp (F := fX8_keep_32_l2 (nI f) (bi v)) (Inv := fun i s => xw 33 σ s ∧ wT i W (fun w => W w && (bt w f == v)) (s.2 33)) (Q := fun r => ∃ σ', r = some ((), σ') ∧ xw 33 σ σ' ∧ wS (fun w => W w && (bt w f == v)) (σ'.2 33)) 16 ?_ ?_ 16 0 ow_FU σ rfl (by decide) ⟨xw.rf, wT.zr h⟩
  · intro m i s hi ⟨h1, h2⟩
    refine Or.inr ⟨ow_setL s 33 i (s.2 33 i &&& wm i f v), ?_, h1.st, h2.st (fun j hj => ?_)⟩
    · rw [fX8_keep_32_l2]
      simp only [e16, nI_ge hi (show (16 : Nat) < 2 ^ 31 by decide), if_false, ow_in_nI hi (show (16 : Nat) < 2 ^ 31 by decide), if_true, ow_bd, ow_lt, Option.bind_some, nI_clamp (show i < 2 ^ 31 by omega), nI_1, X_where hi hf]
    · rw [wb_and, wm_b hi hf hj, h2.at hi hj]
  · intro m s ⟨h1, h2⟩
    refine ⟨s, ?_, h1, h2.en⟩
    rw [fX8_keep_32_l2]
    rw [if_pos (show (16 : Int32) ≤ nI 16 from nI_le (Nat.le_refl 16) (by decide))]
theorem X_keep_34 {W : Nat → Bool} {f : Nat} {v : Bool} {σ : ow_S} (h : wS W (σ.2 35)) (hf : f < 10) : ∃ σ', fX8_keep_34 (nI f) (bi v) σ = some ((), σ') ∧ xw 35 σ σ' ∧ wS (fun w => W w && (bt w f == v)) (σ'.2 35) := by
  unfold fX8_keep_34
  refine lp (F := fX8_keep_34_l2 (nI f) (bi v)) (Inv := fun i s => xw 35 σ s ∧ wT i W (fun w => W w && (bt w f == v)) (s.2 35)) (Q := fun r => ∃ σ', r = some ((), σ') ∧ xw 35 σ σ' ∧ wS (fun w => W w && (bt w f == v)) (σ'.2 35)) 16 ?_ ?_ 16 0 ow_FU σ rfl (by decide) ⟨xw.rf, wT.zr h⟩
  · intro m i s hi ⟨h1, h2⟩
    refine Or.inr ⟨ow_setL s 35 i (s.2 35 i &&& wm i f v), ?_, h1.st, h2.st (fun j hj => ?_)⟩
    · rw [fX8_keep_34_l2]
      simp only [e16, nI_ge hi (show (16 : Nat) < 2 ^ 31 by decide), if_false, ow_in_nI hi (show (16 : Nat) < 2 ^ 31 by decide), if_true, ow_bd, ow_lt, Option.bind_some, nI_clamp (show i < 2 ^ 31 by omega), nI_1, X_where hi hf]
    · rw [wb_and, wm_b hi hf hj, h2.at hi hj]
  · intro m s ⟨h1, h2⟩
    refine ⟨s, ?_, h1, h2.en⟩
    rw [fX8_keep_34_l2]
    rw [if_pos (show (16 : Int32) ≤ nI 16 from nI_le (Nat.le_refl 16) (by decide))]
theorem X_keep_24 {W : Nat → Bool} {f : Nat} {v : Bool} {σ : ow_S} (h : wS W (σ.2 25)) (hf : f < 10) : ∃ σ', fX8_keep_24 (nI f) (bi v) σ = some ((), σ') ∧ xw 25 σ σ' ∧ wS (fun w => W w && (bt w f == v)) (σ'.2 25) := by
  unfold fX8_keep_24
  refine lp (F := fX8_keep_24_l2 (nI f) (bi v)) (Inv := fun i s => xw 25 σ s ∧ wT i W (fun w => W w && (bt w f == v)) (s.2 25)) (Q := fun r => ∃ σ', r = some ((), σ') ∧ xw 25 σ σ' ∧ wS (fun w => W w && (bt w f == v)) (σ'.2 25)) 16 ?_ ?_ 16 0 ow_FU σ rfl (by decide) ⟨xw.rf, wT.zr h⟩
  · intro m i s hi ⟨h1, h2⟩
    refine Or.inr ⟨ow_setL s 25 i (s.2 25 i &&& wm i f v), ?_, h1.st, h2.st (fun j hj => ?_)⟩
    · rw [fX8_keep_24_l2]
      simp only [e16, nI_ge hi (show (16 : Nat) < 2 ^ 31 by decide), if_false, ow_in_nI hi (show (16 : Nat) < 2 ^ 31 by decide), if_true, ow_bd, ow_lt, Option.bind_some, nI_clamp (show i < 2 ^ 31 by omega), nI_1, X_where hi hf]
    · rw [wb_and, wm_b hi hf hj, h2.at hi hj]
  · intro m s ⟨h1, h2⟩
    refine ⟨s, ?_, h1, h2.en⟩
    rw [fX8_keep_24_l2]
    rw [if_pos (show (16 : Int32) ≤ nI 16 from nI_le (Nat.le_refl 16) (by decide))]
theorem X_where1 {i f : Nat} (hi : i < 16) (hf : f < 10) (σ : ow_S) : fX8_where (nI i) (nI f) 1 σ = some (wm i f true, σ) := X_where (v := true) hi hf σ
theorem X_where0 {i f : Nat} (hi : i < 16) (hf : f < 10) (σ : ow_S) : fX8_where (nI i) (nI f) 0 σ = some (wm i f false, σ) := X_where (v := false) hi hf σ
theorem X_drop_32 {W : Nat → Bool} {f g : Nat} {σ : ow_S} (h : wS W (σ.2 33)) (hf : f < 10) (hg : g < 10) : ∃ σ', fX8_dropNeither_32 (nI f) (nI g) σ = some ((), σ') ∧ xw 33 σ σ' ∧ wS (fun w => W w && (bt w f || bt w g)) (σ'.2 33) := by
  unfold fX8_dropNeither_32
  refine lp (F := fX8_dropNeither_32_l2 (nI f) (nI g)) (Inv := fun i s => xw 33 σ s ∧ wT i W (fun w => W w && (bt w f || bt w g)) (s.2 33)) (Q := fun r => ∃ σ', r = some ((), σ') ∧ xw 33 σ σ' ∧ wS (fun w => W w && (bt w f || bt w g)) (σ'.2 33)) 16 ?_ ?_ 16 0 ow_FU σ rfl (by decide) ⟨xw.rf, wT.zr h⟩
  · intro m i s hi ⟨h1, h2⟩
    refine Or.inr ⟨ow_setL s 33 i (s.2 33 i &&& (wm i f true ||| wm i g true)), ?_, h1.st, h2.st (fun j hj => ?_)⟩
    · rw [fX8_dropNeither_32_l2]
      simp only [e16, nI_ge hi (show (16 : Nat) < 2 ^ 31 by decide), if_false, ow_in_nI hi (show (16 : Nat) < 2 ^ 31 by decide), if_true, ow_bd, ow_lt, Option.bind_some, nI_clamp (show i < 2 ^ 31 by omega), nI_1, X_where1 hi hf, X_where1 hi hg]
    · rw [wb_and, wb_or, wm_b hi hf hj, wm_b hi hg hj, h2.at hi hj]; cases bt (64 * i + j) f <;> cases bt (64 * i + j) g <;> rfl
  · intro m s ⟨h1, h2⟩
    refine ⟨s, ?_, h1, h2.en⟩
    rw [fX8_dropNeither_32_l2]
    rw [if_pos (show (16 : Int32) ≤ nI 16 from nI_le (Nat.le_refl 16) (by decide))]
theorem X_both {W : Nat → Bool} {W2 : Nat → Bool} {σ : ow_S} (h : wS W (σ.2 25)) (h0 : wS W2 (σ.2 33)) : ∃ σ', fX8_keepBoth_24_32  σ = some ((), σ') ∧ xw 25 σ σ' ∧ wS (fun w => W w && W2 w) (σ'.2 25) := by
  unfold fX8_keepBoth_24_32
  refine lp (F := fX8_keepBoth_24_32_l2 ) (Inv := fun i s => xw 25 σ s ∧ wT i W (fun w => W w && W2 w) (s.2 25)) (Q := fun r => ∃ σ', r = some ((), σ') ∧ xw 25 σ σ' ∧ wS (fun w => W w && W2 w) (σ'.2 25)) 16 ?_ ?_ 16 0 ow_FU σ rfl (by decide) ⟨xw.rf, wT.zr h⟩
  · intro m i s hi ⟨h1, h2⟩
    refine Or.inr ⟨ow_setL s 25 i (s.2 25 i &&& s.2 33 i), ?_, h1.st, h2.st (fun j hj => ?_)⟩
    · rw [fX8_keepBoth_24_32_l2]
      simp only [e16, nI_ge hi (show (16 : Nat) < 2 ^ 31 by decide), if_false, ow_in_nI hi (show (16 : Nat) < 2 ^ 31 by decide), if_true, ow_bd, ow_lt, Option.bind_some, nI_clamp (show i < 2 ^ 31 by omega), nI_1]
    · rw [wb_and, h1.2 33 (by decide), h0 i hi j hj, h2.at hi hj]
  · intro m s ⟨h1, h2⟩
    refine ⟨s, ?_, h1, h2.en⟩
    rw [fX8_keepBoth_24_32_l2]
    rw [if_pos (show (16 : Int32) ≤ nI 16 from nI_le (Nat.le_refl 16) (by decide))]
theorem X_any_32 {W : Nat → Bool} {f : Nat} {v : Bool} {σ : ow_S} (h : wS W (σ.2 33)) (hf : f < 10) : fX8_any_32 (nI f) (bi v) σ = some (bi (ex 1024 (fun w => W w && (bt w f == v))), σ) := by
  unfold fX8_any_32
  refine lp (F := fX8_any_32_l2 (nI f) (bi v)) (Inv := fun i s => s = σ ∧ ∀ w, w < 64 * i → (W w && (bt w f == v)) = false) (Q := fun r => r = some (bi (ex 1024 (fun w => W w && (bt w f == v))), σ)) 16 ?_ ?_ 16 0 ow_FU σ rfl (by decide) ⟨rfl, fun w hw => by omega⟩
  · intro m i s hi ⟨h1, h2⟩
    subst h1
    have hb : ∀ j, j < 64 → wb (s.2 33 i &&& wm i f v) j = (W (64 * i + j) && (bt (64 * i + j) f == v)) := fun j hj => by rw [wb_and, wm_b hi hf hj, h i hi j hj]
    rw [fX8_any_32_l2]
    simp only [e16, nI_ge hi (show (16 : Nat) < 2 ^ 31 by decide), if_false, ow_in_nI hi (show (16 : Nat) < 2 ^ 31 by decide), if_true, ow_bd, ow_lt, Option.bind_some, nI_clamp (show i < 2 ^ 31 by omega), nI_1, X_where hi hf, lgc0]
    by_cases c1 : s.2 33 i = 0
    · refine Or.inr ⟨s, by simp only [c1, if_true], rfl, b64 h2 (fun j hj => ?_)⟩
      rw [← hb j hj, c1, wb_and, wb_0]; rfl
    · by_cases c2 : s.2 33 i &&& wm i f v = 0
      · refine Or.inr ⟨s, by simp only [c1, c2, if_true, if_false], rfl, b64 h2 (fun j hj => ?_)⟩
        rw [← hb j hj, c2, wb_0]
      · refine Or.inl ?_
        have : ex 1024 (fun w => W w && (bt w f == v)) = true := by
          rw [wb_z, Bool.not_eq_false, ex_t] at c2
          obtain ⟨j, hj, e⟩ := c2
          rw [hb j hj] at e
          exact ex_t.mpr ⟨64 * i + j, by omega, e⟩
        simp only [c1, c2, if_false, this, is01_1, if_true]
        rfl
  · intro m s ⟨h1, h2⟩
    subst h1
    have : ex 1024 (fun w => W w && (bt w f == v)) = false := ex_f.mpr (fun w hw => h2 w (by omega))
    rw [fX8_any_32_l2]
    rw [if_pos (show (16 : Int32) ≤ nI 16 from nI_le (Nat.le_refl 16) (by decide)), if_pos is01_0, this]
    rfl
theorem X_size_32 {W : Nat → Bool} {σ : ow_S} (h : wS W (σ.2 33)) : fX8_size_32 σ = some (nI (cn W 1024), σ) := by
  unfold fX8_size_32
  refine lp (β := Int32 × ow_S) (F := fun m i b => fX8_size_32_l4 m b.1 i b.2) (Inv := fun i b => b = (nI (cn W (64 * i)), σ)) (Q := fun r => r = some (nI (cn W 1024), σ)) 16 ?_ ?_ 16 0 ow_FU (0, σ) rfl (by decide) rfl
  · intro m i b hi h1
    subst h1
    refine Or.inr ⟨(nI (cn W (64 * (i + 1))), σ), ?_, rfl⟩
    have e : cn (wb (σ.2 33 i)) 64 = cn (fun j => W (64 * i + j)) 64 := cn_congr (fun j hj => h i hi j hj)
    show fX8_size_32_l4 (m + 1) (nI (cn W (64 * i))) (nI i) σ = fX8_size_32_l4 m (nI (cn W (64 * (i + 1)))) (nI (i + 1)) σ
    rw [fX8_size_32_l4]
    simp only [e16, nI_ge hi (show (16 : Nat) < 2 ^ 31 by decide), if_false, ow_in_nI hi (show (16 : Nat) < 2 ^ 31 by decide), if_true, ow_bd, ow_lt, Option.bind_some, nI_clamp (show i < 2 ^ 31 by omega), nI_1, X_bitCountL, e, nI_add]
    rw [show 64 * (i + 1) = 64 * i + 64 by omega, cn_add]
  · intro m b h1
    subst h1
    show fX8_size_32_l4 (m + 1) (nI (cn W (64 * 16))) (nI 16) σ = _
    rw [fX8_size_32_l4, if_pos (show (16 : Int32) ≤ nI 16 from nI_le (Nat.le_refl 16) (by decide))]
theorem X_any_34 {W : Nat → Bool} {f : Nat} {v : Bool} {σ : ow_S} (h : wS W (σ.2 35)) (hf : f < 10) : fX8_any_34 (nI f) (bi v) σ = some (bi (ex 1024 (fun w => W w && (bt w f == v))), σ) := by
  unfold fX8_any_34
  refine lp (F := fX8_any_34_l2 (nI f) (bi v)) (Inv := fun i s => s = σ ∧ ∀ w, w < 64 * i → (W w && (bt w f == v)) = false) (Q := fun r => r = some (bi (ex 1024 (fun w => W w && (bt w f == v))), σ)) 16 ?_ ?_ 16 0 ow_FU σ rfl (by decide) ⟨rfl, fun w hw => by omega⟩
  · intro m i s hi ⟨h1, h2⟩
    subst h1
    have hb : ∀ j, j < 64 → wb (s.2 35 i &&& wm i f v) j = (W (64 * i + j) && (bt (64 * i + j) f == v)) := fun j hj => by rw [wb_and, wm_b hi hf hj, h i hi j hj]
    rw [fX8_any_34_l2]
    simp only [e16, nI_ge hi (show (16 : Nat) < 2 ^ 31 by decide), if_false, ow_in_nI hi (show (16 : Nat) < 2 ^ 31 by decide), if_true, ow_bd, ow_lt, Option.bind_some, nI_clamp (show i < 2 ^ 31 by omega), nI_1, X_where hi hf, lgc0]
    by_cases c1 : s.2 35 i = 0
    · refine Or.inr ⟨s, by simp only [c1, if_true], rfl, b64 h2 (fun j hj => ?_)⟩
      rw [← hb j hj, c1, wb_and, wb_0]; rfl
    · by_cases c2 : s.2 35 i &&& wm i f v = 0
      · refine Or.inr ⟨s, by simp only [c1, c2, if_true, if_false], rfl, b64 h2 (fun j hj => ?_)⟩
        rw [← hb j hj, c2, wb_0]
      · refine Or.inl ?_
        have : ex 1024 (fun w => W w && (bt w f == v)) = true := by
          rw [wb_z, Bool.not_eq_false, ex_t] at c2
          obtain ⟨j, hj, e⟩ := c2
          rw [hb j hj] at e
          exact ex_t.mpr ⟨64 * i + j, by omega, e⟩
        simp only [c1, c2, if_false, this, is01_1, if_true]
        rfl
  · intro m s ⟨h1, h2⟩
    subst h1
    have : ex 1024 (fun w => W w && (bt w f == v)) = false := ex_f.mpr (fun w hw => h2 w (by omega))
    rw [fX8_any_34_l2]
    rw [if_pos (show (16 : Int32) ≤ nI 16 from nI_le (Nat.le_refl 16) (by decide)), if_pos is01_0, this]
    rfl
theorem X_size_34 {W : Nat → Bool} {σ : ow_S} (h : wS W (σ.2 35)) : fX8_size_34 σ = some (nI (cn W 1024), σ) := by
  unfold fX8_size_34
  refine lp (β := Int32 × ow_S) (F := fun m i b => fX8_size_34_l4 m b.1 i b.2) (Inv := fun i b => b = (nI (cn W (64 * i)), σ)) (Q := fun r => r = some (nI (cn W 1024), σ)) 16 ?_ ?_ 16 0 ow_FU (0, σ) rfl (by decide) rfl
  · intro m i b hi h1
    subst h1
    refine Or.inr ⟨(nI (cn W (64 * (i + 1))), σ), ?_, rfl⟩
    have e : cn (wb (σ.2 35 i)) 64 = cn (fun j => W (64 * i + j)) 64 := cn_congr (fun j hj => h i hi j hj)
    show fX8_size_34_l4 (m + 1) (nI (cn W (64 * i))) (nI i) σ = fX8_size_34_l4 m (nI (cn W (64 * (i + 1)))) (nI (i + 1)) σ
    rw [fX8_size_34_l4]
    simp only [e16, nI_ge hi (show (16 : Nat) < 2 ^ 31 by decide), if_false, ow_in_nI hi (show (16 : Nat) < 2 ^ 31 by decide), if_true, ow_bd, ow_lt, Option.bind_some, nI_clamp (show i < 2 ^ 31 by omega), nI_1, X_bitCountL, e, nI_add]
    rw [show 64 * (i + 1) = 64 * i + 64 by omega, cn_add]
  · intro m b h1
    subst h1
    show fX8_size_34_l4 (m + 1) (nI (cn W (64 * 16))) (nI 16) σ = _
    rw [fX8_size_34_l4, if_pos (show (16 : Int32) ≤ nI 16 from nI_le (Nat.le_refl 16) (by decide))]
theorem X_empty_32 {W : Nat → Bool} {σ : ow_S} (h : wS W (σ.2 33)) : fX8_isEmpty_32 σ = some (bi (!(ex 1024 W)), σ) := by
  unfold fX8_isEmpty_32
  refine lp (F := fX8_isEmpty_32_l2) (Inv := fun i s => s = σ ∧ ∀ w, w < 64 * i → W w = false) (Q := fun r => r = some (bi (!(ex 1024 W)), σ)) 16 ?_ ?_ 16 0 ow_FU σ rfl (by decide) ⟨rfl, fun w hw => by omega⟩
  · intro m i s hi ⟨h1, h2⟩
    subst h1
    rw [fX8_isEmpty_32_l2]
    simp only [e16, nI_ge hi (show (16 : Nat) < 2 ^ 31 by decide), if_false, ow_in_nI hi (show (16 : Nat) < 2 ^ 31 by decide), if_true, ow_lt, nI_clamp (show i < 2 ^ 31 by omega), nI_1, lgc0]
    by_cases c1 : s.2 33 i = 0
    · refine Or.inr ⟨s, by simp only [c1, if_true], rfl, b64 h2 (fun j hj => ?_)⟩
      rw [← h i hi j hj, c1, wb_0]
    · refine Or.inl ?_
      have : ex 1024 W = true := by
        have c2 := c1
        rw [wb_z, Bool.not_eq_false, ex_t] at c2
        obtain ⟨j, hj, e⟩ := c2
        rw [h i hi j hj] at e
        exact ex_t.mpr ⟨64 * i + j, by omega, e⟩
      simp only [c1, if_false, this, is01_0, if_true]
      rfl
  · intro m s ⟨h1, h2⟩
    subst h1
    have : ex 1024 W = false := ex_f.mpr (fun w hw => h2 w (by omega))
    rw [fX8_isEmpty_32_l2]
    rw [if_pos (show (16 : Int32) ≤ nI 16 from nI_le (Nat.le_refl 16) (by decide)), if_pos is01_1, this]
    rfl
theorem X_empty_34 {W : Nat → Bool} {σ : ow_S} (h : wS W (σ.2 35)) : fX8_isEmpty_34 σ = some (bi (!(ex 1024 W)), σ) := by
  unfold fX8_isEmpty_34
  refine lp (F := fX8_isEmpty_34_l2) (Inv := fun i s => s = σ ∧ ∀ w, w < 64 * i → W w = false) (Q := fun r => r = some (bi (!(ex 1024 W)), σ)) 16 ?_ ?_ 16 0 ow_FU σ rfl (by decide) ⟨rfl, fun w hw => by omega⟩
  · intro m i s hi ⟨h1, h2⟩
    subst h1
    rw [fX8_isEmpty_34_l2]
    simp only [e16, nI_ge hi (show (16 : Nat) < 2 ^ 31 by decide), if_false, ow_in_nI hi (show (16 : Nat) < 2 ^ 31 by decide), if_true, ow_lt, nI_clamp (show i < 2 ^ 31 by omega), nI_1, lgc0]
    by_cases c1 : s.2 35 i = 0
    · refine Or.inr ⟨s, by simp only [c1, if_true], rfl, b64 h2 (fun j hj => ?_)⟩
      rw [← h i hi j hj, c1, wb_0]
    · refine Or.inl ?_
      have : ex 1024 W = true := by
        have c2 := c1
        rw [wb_z, Bool.not_eq_false, ex_t] at c2
        obtain ⟨j, hj, e⟩ := c2
        rw [h i hi j hj] at e
        exact ex_t.mpr ⟨64 * i + j, by omega, e⟩
      simp only [c1, if_false, this, is01_0, if_true]
      rfl
  · intro m s ⟨h1, h2⟩
    subst h1
    have : ex 1024 W = false := ex_f.mpr (fun w hw => h2 w (by omega))
    rw [fX8_isEmpty_34_l2]
    rw [if_pos (show (16 : Int32) ≤ nI 16 from nI_le (Nat.le_refl 16) (by decide)), if_pos is01_1, this]
    rfl
theorem X_empty_24 {W : Nat → Bool} {σ : ow_S} (h : wS W (σ.2 25)) : fX8_isEmpty_24 σ = some (bi (!(ex 1024 W)), σ) := by
  unfold fX8_isEmpty_24
  refine lp (F := fX8_isEmpty_24_l2) (Inv := fun i s => s = σ ∧ ∀ w, w < 64 * i → W w = false) (Q := fun r => r = some (bi (!(ex 1024 W)), σ)) 16 ?_ ?_ 16 0 ow_FU σ rfl (by decide) ⟨rfl, fun w hw => by omega⟩
  · intro m i s hi ⟨h1, h2⟩
    subst h1
    rw [fX8_isEmpty_24_l2]
    simp only [e16, nI_ge hi (show (16 : Nat) < 2 ^ 31 by decide), if_false, ow_in_nI hi (show (16 : Nat) < 2 ^ 31 by decide), if_true, ow_lt, nI_clamp (show i < 2 ^ 31 by omega), nI_1, lgc0]
    by_cases c1 : s.2 25 i = 0
    · refine Or.inr ⟨s, by simp only [c1, if_true], rfl, b64 h2 (fun j hj => ?_)⟩
      rw [← h i hi j hj, c1, wb_0]
    · refine Or.inl ?_
      have : ex 1024 W = true := by
        have c2 := c1
        rw [wb_z, Bool.not_eq_false, ex_t] at c2
        obtain ⟨j, hj, e⟩ := c2
        rw [h i hi j hj] at e
        exact ex_t.mpr ⟨64 * i + j, by omega, e⟩
      simp only [c1, if_false, this, is01_0, if_true]
      rfl
  · intro m s ⟨h1, h2⟩
    subst h1
    have : ex 1024 W = false := ex_f.mpr (fun w hw => h2 w (by omega))
    rw [fX8_isEmpty_24_l2]
    rw [if_pos (show (16 : Int32) ≤ nI 16 from nI_le (Nat.le_refl 16) (by decide)), if_pos is01_1, this]
    rfl
