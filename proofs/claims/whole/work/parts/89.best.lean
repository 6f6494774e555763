/-! best -/
theorem tv_bi (w f : Nat) : nI (tvN w f) = bi (bt w f) := by
  unfold tvN bt
  rcases (show w / 2 ^ f % 2 = 0 ∨ w / 2 ^ f % 2 = 1 by omega) with e | e <;> rw [e] <;> rfl
def svP (law : List aC) (np : Nat) (kn si hu : Nat → Nat) (w p f : Nat) : Bool := sy law np kn si hu p f (tvN w f)
def hsS (hu : Nat → Nat) (w p set : Nat) : Nat → Nat
  | 0 => 0
  | f + 1 => hsS hu w p set f + (if bt set f = true then hu (hix p f (tvN w f)) else 0)
theorem hsS_le {hu : Nat → Nat} (h : ∀ i, hu i ≤ 99) (w p set : Nat) : ∀ n, hsS hu w p set n ≤ 99 * n
  | 0 => Nat.le_refl _
  | f + 1 => by
    have ih := hsS_le h w p set f
    have h1 := h (hix p f (tvN w f))
    show hsS hu w p set f + (if bt set f = true then hu (hix p f (tvN w f)) else 0) ≤ 99 * (f + 1)
    by_cases c : bt set f = true
    · rw [if_pos c]; omega
    · rw [if_neg c]; omega
def kpS (W : Nat → Bool) (w set : Nat) : Nat → Nat → Bool
  | 0 => W
  | f + 1 => if bt set f = true then fun v => kpS W w set f v && (bt v f == bt w f) else kpS W w set f
theorem kpS_t {W : Nat → Bool} {w set : Nat} : ∀ n v, kpS W w set n v = true ↔ W v = true ∧ ∀ g, g < n → bt set g = true → bt v g = bt w g := by
  intro n
  induction n with
  | zero => intro v; exact ⟨fun h => ⟨h, fun g hg => absurd hg (by omega)⟩, fun h => h.1⟩
  | succ n ih =>
    intro v
    show (if bt set n = true then fun v => kpS W w set n v && (bt v n == bt w n) else kpS W w set n) v = true ↔ _
    by_cases c : bt set n = true
    · rw [if_pos c, Bool.and_eq_true, ih, beq_iff_eq]
      constructor
      · rintro ⟨⟨h1, h2⟩, h3⟩
        refine ⟨h1, fun g hg hs => ?_⟩
        by_cases e : g = n
        · subst e; exact h3
        · exact h2 g (by omega) hs
      · rintro ⟨h1, h2⟩
        exact ⟨⟨h1, fun g hg hs => h2 g (by omega) hs⟩, h2 n (by omega) c⟩
    · rw [if_neg c, ih]
      constructor
      · rintro ⟨h1, h2⟩
        refine ⟨h1, fun g hg hs => ?_⟩
        by_cases e : g = n
        · subst e; exact absurd hs c
        · exact h2 g (by omega) hs
      · rintro ⟨h1, h2⟩
        exact ⟨h1, fun g hg hs => h2 g (by omega) hs⟩
def payS (si hu : Nat → Nat) (w p can set n : Nat) : Nat := si p * (pop can - pop set) + hsS hu w p set n
theorem payS_le {si hu : Nat → Nat} (h : ∀ i, hu i ≤ 99) (h2 : ∀ p, si p ≤ 99) (w p can set : Nat) {n : Nat} (h10 : n ≤ 10) : payS si hu w p can set n ≤ 1980 := by
  have h3 := hsS_le h w p set n
  have h4 := pop_le can
  have h5 : si p * (pop can - pop set) ≤ 99 * 10 := Nat.mul_le_mul (h2 p) (by omega)
  unfold payS
  omega
theorem lclamp_r {most v : Int32} {M : Nat} (hM : most = nI M) (hM2 : M < 2 ^ 31) : ∃ k, k ≤ M ∧ lclamp most v = nI k := by
  unfold lclamp
  by_cases c1 : 0 ≤ v
  · rw [if_pos c1]
    by_cases c2 : v ≤ most
    · rw [if_pos c2]
      have : inR 0 M v = true := inR_t.mpr ⟨by rw [i_le] at c1; exact c1, by rw [i_le, hM, nI_toInt hM2] at c2; exact c2⟩
      exact inR_nI hM2 this
    · rw [if_neg c2]; exact ⟨M, Nat.le_refl _, hM⟩
  · rw [if_neg c1]; exact ⟨0, Nat.zero_le _, rfl⟩
theorem lval_r (law : List aC) (env : aE) : ∀ o, ∃ k, k ≤ 999 ∧ lval law 999 env o = nI k
  | none => ⟨0, by omega, rfl⟩
  | some j => by
    unfold lval
    dsimp only
    split
    · exact ⟨0, by omega, rfl⟩
    · split
      · exact ⟨0, by omega, rfl⟩
      · exact lclamp_r rfl (by decide)
def sntN (law : List aC) (n : Nat) (W : Nat → Bool) (p t : Int32) : Nat := (snt law n W p t).toNatClampNeg
theorem sntN_eq (law : List aC) (n : Nat) (W : Nat → Bool) (p t : Int32) : snt law n W p t = nI (sntN law n W p t) ∧ sntN law n W p t ≤ 999 := by
  obtain ⟨k, h1, h2⟩ := lval_r law (envT (bs (trW W) n) p (nI (cn (prW W) n)) t) (lfst 115 (envT (bs (trW W) n) p (nI (cn (prW W) n)) t) law 0)
  have e : snt law n W p t = nI k := h2
  unfold sntN
  rw [e, nI_clamp (by omega)]
  exact ⟨rfl, h1⟩
def ctN (law : List aC) (W : Nat → Bool) (si hu : Nat → Nat) (sp : Nat → Int32) (w p can n set : Nat) : Nat := payS si hu w p can set n + sntN law n (kpS W w set n) (nI p) (sp p + nI (payS si hu w p can set n))
def bqB (C : Nat → Nat) (can : Nat) : Nat → Nat
  | 0 => 0
  | i + 1 => if i &&& can = i ∧ C i < C (bqB C can i) then i else bqB C can i
theorem bqB_sub (C : Nat → Nat) (can : Nat) : ∀ i, bqB C can i &&& can = bqB C can i
  | 0 => Nat.zero_and can
  | i + 1 => by
    unfold bqB
    by_cases c : i &&& can = i ∧ C i < C (bqB C can i)
    · rw [if_pos c]; exact c.1
    · rw [if_neg c]; exact bqB_sub C can i
theorem bqB_end (C : Nat → Nat) (can : Nat) : ∀ d, bqB C can (can + 1 + d) = bqB C can (can + 1)
  | 0 => rfl
  | d + 1 => by
    have e1 : bqB C can (can + 1 + d + 1) = if (can + 1 + d) &&& can = can + 1 + d ∧ C (can + 1 + d) < C (bqB C can (can + 1 + d)) then can + 1 + d else bqB C can (can + 1 + d) := rfl
    show bqB C can (can + 1 + d + 1) = _
    rw [e1, if_neg (fun h => by
      have := sub_le h.1
      omega)]
    exact bqB_end C can d
theorem cn_diff {P Q : Nat → Bool} : ∀ {N : Nat}, (∀ g, g < N → P g = true → Q g = true) → cn (fun g => Q g && !P g) N + cn P N = cn Q N := by
  intro N
  induction N with
  | zero => intro _; rfl
  | succ N ih =>
    intro h
    have i1 := ih (fun g hg => h g (by omega))
    have hN := h N (by omega)
    show cn (fun g => Q g && !P g) N + (if (Q N && !P N) = true then 1 else 0) + (cn P N + (if P N = true then 1 else 0)) = cn Q N + (if Q N = true then 1 else 0)
    revert hN
    cases P N <;> cases Q N <;> simp <;> omega
theorem pop_diff {can set : Nat} (hc : can < 1024) (hs : set &&& can = set) (σ : ow_S) : fJ6_bitCount_0f7a4 (nI can &&& (nI set ^^^ (-1))) σ = some (nI (pop can - pop set), σ) := by
  have hle := sub_le hs
  have e : nI can &&& (nI set ^^^ (-1)) = nI (bs (fun g => bt can g && !bt set g) 10) := by
    have hl := bs_lt (fun g => bt can g && !bt set g) 10
    apply ib_ext
    intro j hj
    rw [ib_sub (by omega) (by omega) hj, ib_nI (by omega), bs_tb]
    by_cases c : j < 10
    · simp [c]
    · rw [bt_hi (n := 10) hc (by omega)]; simp
  rw [e, X_bitCount (bs_lt (fun g => bt can g && !bt set g) 10), pop_bs _ (Nat.le_refl 10), pop_cn hc, pop_cn (show set < 1024 by omega)]
  have := cn_diff (P := bt set) (Q := bt can) (N := 10) (fun g _ hg => sub_bt hs hg)
  rw [show cn (bt can) 10 - cn (bt set) 10 = cn (fun g => bt can g && !bt set g) 10 by omega]
theorem X_say {n w u tl : Nat} {tb : Nat → Nat} {np : Nat} {kn si hu : Nat → Nat} {sp : Nat → Int32} {nb : Nat} {who : Nat → Nat} {fac ans cst : Nat → Int32} {lf : Nat → Nat → Bool} {law : List aC} {σ : ow_S} (hX : RX n w u tl tb np kn si hu sp nb who fac ans cst lf law σ) (hw : w < 2 ^ 31) (h10 : n ≤ 10) {p : Nat} (hp : p < np) : ∃ σ', fX9_sayable (nI p) σ = some (nI (bs (svP law np kn si hu w p) n), σ') ∧ xeq σ σ' := by
  rw [fX9_sayable, z0]
  refine lp (β := Int32 × ow_S) (F := fun m i b => fX9_sayable_l4 (nI p) m b.1 i b.2) (Inv := fun i b => b.1 = nI (bs (svP law np kn si hu w p) i) ∧ xeq σ b.2) (Q := fun r => ∃ σ', r = some (nI (bs (svP law np kn si hu w p) n), σ') ∧ xeq σ σ') n ?_ ?_ n 0 ow_FU (nI 0, σ) (Nat.zero_add _) (Nat.lt_of_le_of_lt h10 (by decide)) ⟨rfl, xeq.rf⟩
  · intro m i b hi ⟨h0, h1⟩
    obtain ⟨y, s⟩ := b
    have h0' : y = nI (bs (svP law np kn si hu w p) i) := h0
    have h1' : xeq σ s := h1
    subst h0'
    have hXs := hX.xe h1'
    obtain ⟨s1, a1, a2⟩ := X_would hXs.2.2.2.2.2.2 hXs.2.2.1 hp (show i < 10 by omega) (tvN_lt w i)
    have e : bs (svP law np kn si hu w p) (i + 1) = bs (svP law np kn si hu w p) i + (if svP law np kn si hu w p i = true then 2 ^ i else 0) := rfl
    refine Or.inr ⟨(nI (bs (svP law np kn si hu w p) (i + 1)), s1), ?_, rfl, h1'.tr a2⟩
    show fX9_sayable_l4 (nI p) (m + 1) (nI (bs (svP law np kn si hu w p) i)) (nI i) s = fX9_sayable_l4 (nI p) m (nI (bs (svP law np kn si hu w p) (i + 1))) (nI (i + 1)) s1
    rw [fX9_sayable_l4, hXs.1.1, if_neg (nI_ge hi (by omega)), X_tv hXs.1.2.1 hw (by omega), bdS, a1, bdS, e]
    simp only [ow_lt, bs_or (P := svP law np kn si hu w p) (show i < 10 by omega), nI_1, bi_eq0]
    rw [show sy law np kn si hu p i (tvN w i) = svP law np kn si hu w p i from rfl]
    cases svP law np kn si hu w p i <;> rfl
  · intro m b ⟨h0, h1⟩
    obtain ⟨y, s⟩ := b
    have h0' : y = nI (bs (svP law np kn si hu w p) n) := h0
    have h1' : xeq σ s := h1
    subst h0'
    refine ⟨s, ?_, h1'⟩
    show fX9_sayable_l4 (nI p) (m + 1) (nI (bs (svP law np kn si hu w p) n)) (nI n) s = _
    rw [fX9_sayable_l4, (hX.xe h1').1.1, if_pos (nI_le (Nat.le_refl n) (by omega))]
theorem X_pays {n w u tl : Nat} {tb : Nat → Nat} {np : Nat} {kn si hu : Nat → Nat} {sp : Nat → Int32} {nb : Nat} {who : Nat → Nat} {fac ans cst : Nat → Int32} {lf : Nat → Nat → Bool} {law : List aC} {σ : ow_S} (hX : RX n w u tl tb np kn si hu sp nb who fac ans cst lf law σ) (hw : w < 2 ^ 31) (h10 : n ≤ 10) {p set can : Nat} (hp : p < np) (hc : can < 1024) (hs : set &&& can = set) : fX9_paysIfSaid (nI p) (nI set) (nI can) σ = some (nI (payS si hu w p can set n), σ) := by
  have h5 := hX.2.2.1.2.1
  have hle := sub_le hs
  rw [fX9_paysIfSaid, X_silenceOf hX.2.2.1 hp, bdS, pop_diff hc hs, bdS, ltE, pk_mul, z0]
  refine lp (β := Int32 × ow_S) (F := fun m i b => fX9_paysIfSaid_l22 (nI p) (nI set) m b.1 i b.2) (Inv := fun i b => b = (nI (si p * (pop can - pop set) + hsS hu w p set i), σ)) (Q := fun r => r = some (nI (payS si hu w p can set n), σ)) n ?_ ?_ n 0 ow_FU (nI (si p * (pop can - pop set)), σ) (Nat.zero_add _) (Nat.lt_of_le_of_lt h10 (by decide)) rfl
  · intro m i b hi h0
    subst h0
    refine Or.inr ⟨(nI (si p * (pop can - pop set) + hsS hu w p set (i + 1)), σ), ?_, rfl⟩
    have e : hsS hu w p set (i + 1) = hsS hu w p set i + (if bt set i = true then hu (hix p i (tvN w i)) else 0) := rfl
    show fX9_paysIfSaid_l22 (nI p) (nI set) (m + 1) (nI (si p * (pop can - pop set) + hsS hu w p set i)) (nI i) σ = fX9_paysIfSaid_l22 (nI p) (nI set) m (nI (si p * (pop can - pop set) + hsS hu w p set (i + 1))) (nI (i + 1)) σ
    rw [fX9_paysIfSaid_l22, hX.1.1, if_neg (nI_ge hi (by omega)), e]
    simp only [ow_lt, ow_bd, X_tv hX.1.2.1 hw (show i < 10 by omega), Option.bind_some, X_hurtOf hX.2.2.1 (show p < 5 by omega) (show i < 10 by omega) (tvN_lt w i), nI_add, nI_1, bt_eq (show set < 2 ^ 31 by omega) (show i < 10 by omega)]
    by_cases c : bt set i = true
    · rw [if_pos c, if_pos c, Nat.add_assoc]
    · rw [if_neg c, if_neg c]; rfl
  · intro m b h0
    subst h0
    show fX9_paysIfSaid_l22 (nI p) (nI set) (m + 1) (nI (si p * (pop can - pop set) + hsS hu w p set n)) (nI n) σ = _
    rw [fX9_paysIfSaid_l22, hX.1.1, if_pos (nI_le (Nat.le_refl n) (by omega))]
    rfl
theorem X_cost {n w u tl : Nat} {tb : Nat → Nat} {np : Nat} {kn si hu : Nat → Nat} {sp : Nat → Int32} {nb : Nat} {who : Nat → Nat} {fac ans cst : Nat → Int32} {lf : Nat → Nat → Bool} {law : List aC} {σ : ow_S} (hX : RX n w u tl tb np kn si hu sp nb who fac ans cst lf law σ) (hw : w < 2 ^ 31) (h10 : n ≤ 10) {p set can : Nat} (hp : p < np) (hc : can < 1024) (hs : set &&& can = set) : ∃ σ', fX9_costIfSaid (nI p) (nI set) (nI can) σ = some (nI (ctN law (lf nb) si hu sp w p can n set), σ') ∧ xeq σ σ' := by
  have h5 := hX.2.2.1.2.1
  have hle := sub_le hs
  obtain ⟨s1, a1, a2, a3⟩ := X_copy_34_32 (σ := σ) (wS_any _) hX.2.2.2.2.2.1.2.1
  rw [fX9_costIfSaid, X_pays hX hw h10 hp hc hs, bdS, a1, bdS, z0]
  refine lp (F := fX9_costIfSaid_l23 (nI p) (nI set) (nI (payS si hu w p can set n))) (Inv := fun i s => xeq σ s ∧ wS (kpS (lf nb) w set i) (s.2 35)) (Q := fun r => ∃ σ', r = some (nI (ctN law (lf nb) si hu sp w p can n set), σ') ∧ xeq σ σ') n ?_ ?_ n 0 ow_FU s1 (Nat.zero_add _) (Nat.lt_of_le_of_lt h10 (by decide)) ⟨a2.xe rfl, a3⟩
  · intro m i s hi ⟨h1, h2⟩
    have hXs := hX.xe h1
    have e : kpS (lf nb) w set (i + 1) = if bt set i = true then fun v => kpS (lf nb) w set i v && (bt v i == bt w i) else kpS (lf nb) w set i := rfl
    rw [fX9_costIfSaid_l23, hXs.1.1, if_neg (nI_ge hi (by omega)), ltE]
    by_cases c : bt set i = true
    · obtain ⟨s2, b1, b2, b3⟩ := X_keep_34 (v := bt w i) h2 (show i < 10 by omega)
      rw [if_pos (by rw [bt_eq (by omega) (by omega)]; exact c), X_tv hXs.1.2.1 hw (by omega), bdS, tv_bi, b1, bdS]
      refine Or.inr ⟨s2, congrArg (fun v0 => fX9_costIfSaid_l23 (nI p) (nI set) (nI (payS si hu w p can set n)) m v0 s2) (nI_1 i), h1.tr (b2.xe rfl), ?_⟩
      rw [e, if_pos c]
      exact b3
    · rw [if_neg (by rw [bt_eq (by omega) (by omega)]; exact c)]
      refine Or.inr ⟨s, congrArg (fun v0 => fX9_costIfSaid_l23 (nI p) (nI set) (nI (payS si hu w p can set n)) m v0 s) (nI_1 i), h1, ?_⟩
      rw [e, if_neg c]
      exact h2
  · intro m s ⟨h1, h2⟩
    have hXs := hX.xe h1
    obtain ⟨s2, b1, b2⟩ := X_sen_34 hXs.1.1 h10 hXs.2.2.2.2.2.2 h2 (nI p) (sp p + nI (payS si hu w p can set n))
    refine ⟨s2, ?_, h1.tr b2.xe⟩
    rw [fX9_costIfSaid_l23, hXs.1.1, if_pos (nI_le (Nat.le_refl n) (by omega)), X_spent hXs.2.2.1 hXs.2.2.2.1 hp, bdS, b1, bdS, (sntN_eq law n _ _ _).1, nI_add]
    rfl
theorem ctN_le {n w u tl : Nat} {tb : Nat → Nat} {np : Nat} {kn si hu : Nat → Nat} {sp : Nat → Int32} {nb : Nat} {who : Nat → Nat} {fac ans cst : Nat → Int32} {lf : Nat → Nat → Bool} {law : List aC} {σ : ow_S} (hX : RX n w u tl tb np kn si hu sp nb who fac ans cst lf law σ) (h10 : n ≤ 10) (p can set : Nat) : payS si hu w p can set n ≤ ctN law (lf nb) si hu sp w p can n set ∧ ctN law (lf nb) si hu sp w p can n set ≤ 2979 := by
  have h1 := payS_le hX.2.2.1.2.2.2.2.2.2.2 hX.2.2.1.2.2.2.2.2.2.1 w p can set h10
  have h2 := (sntN_eq law n (kpS (lf nb) w set n) (nI p) (sp p + nI (payS si hu w p can set n))).2
  unfold ctN
  omega
theorem X_bestSet {n w u tl : Nat} {tb : Nat → Nat} {np : Nat} {kn si hu : Nat → Nat} {sp : Nat → Int32} {nb : Nat} {who : Nat → Nat} {fac ans cst : Nat → Int32} {lf : Nat → Nat → Bool} {law : List aC} {σ : ow_S} (hX : RX n w u tl tb np kn si hu sp nb who fac ans cst lf law σ) (hw : w < 2 ^ 31) (h10 : n ≤ 10) {p can : Nat} (hp : p < np) (hc : can < 1024) : ∃ σ', fX9_bestSet (nI p) (nI can) σ = some (nI (bqB (ctN law (lf nb) si hu sp w p can n) can (can + 1)), σ') ∧ xeq σ σ' := by
  obtain ⟨s1, a1, a2⟩ := X_cost hX hw h10 (set := 0) hp hc (Nat.zero_and can)
  have a1' : fX9_costIfSaid (nI p) 0 (nI can) σ = some (nI (ctN law (lf nb) si hu sp w p can n 0), s1) := a1
  have hFU : 1024 < ow_FU := by decide
  rw [fX9_bestSet, a1', bdS]
  have b1 : bqB (ctN law (lf nb) si hu sp w p can n) can 1 = 0 := by
    show (if 0 &&& can = 0 ∧ ctN law (lf nb) si hu sp w p can n 0 < ctN law (lf nb) si hu sp w p can n 0 then 0 else 0) = 0
    split <;> rfl
  show ∃ σ', fX9_bestSet_l14 (nI p) (nI can) ow_FU (nI 0) (nI (ctN law (lf nb) si hu sp w p can n 0)) (nI 1) s1 = _ ∧ _
  refine lp (β := (Int32 × Int32) × ow_S) (F := fun m i b => fX9_bestSet_l14 (nI p) (nI can) m b.1.1 b.1.2 i b.2) (Inv := fun i b => b.1.1 = nI (bqB (ctN law (lf nb) si hu sp w p can n) can i) ∧ b.1.2 = nI (ctN law (lf nb) si hu sp w p can n (bqB (ctN law (lf nb) si hu sp w p can n) can i)) ∧ xeq σ b.2) (Q := fun r => ∃ σ', r = some (nI (bqB (ctN law (lf nb) si hu sp w p can n) can (can + 1)), σ') ∧ xeq σ σ') (can + 1) ?_ ?_ can 1 ow_FU ((nI 0, nI (ctN law (lf nb) si hu sp w p can n 0)), s1) (Nat.add_comm _ _) (by omega) ⟨by rw [b1], by rw [b1], a2⟩
  · intro m i b hi ⟨e1, e2, e3⟩
    obtain ⟨⟨y1, y2⟩, s⟩ := b
    have e1' : y1 = nI (bqB (ctN law (lf nb) si hu sp w p can n) can i) := e1
    have e2' : y2 = nI (ctN law (lf nb) si hu sp w p can n (bqB (ctN law (lf nb) si hu sp w p can n) can i)) := e2
    have e3' : xeq σ s := e3
    subst e1' e2'
    have hXs := hX.xe e3'
    have hls : bqB (ctN law (lf nb) si hu sp w p can n) can (i + 1) = if i &&& can = i ∧ ctN law (lf nb) si hu sp w p can n i < ctN law (lf nb) si hu sp w p can n (bqB (ctN law (lf nb) si hu sp w p can n) can i) then i else bqB (ctN law (lf nb) si hu sp w p can n) can i := rfl
    have l1 := (ctN_le hX h10 p can (bqB (ctN law (lf nb) si hu sp w p can n) can i)).2
    obtain ⟨l2, l3⟩ := ctN_le hX h10 p can i
    right
    show ∃ b' : (Int32 × Int32) × ow_S, fX9_bestSet_l14 (nI p) (nI can) (m + 1) (nI (bqB (ctN law (lf nb) si hu sp w p can n) can i)) (nI (ctN law (lf nb) si hu sp w p can n (bqB (ctN law (lf nb) si hu sp w p can n) can i))) (nI i) s = fX9_bestSet_l14 (nI p) (nI can) m b'.1.1 b'.1.2 (nI (i + 1)) b'.2 ∧ b'.1.1 = nI (bqB (ctN law (lf nb) si hu sp w p can n) can (i + 1)) ∧ b'.1.2 = nI (ctN law (lf nb) si hu sp w p can n (bqB (ctN law (lf nb) si hu sp w p can n) can (i + 1))) ∧ xeq σ b'.2
    rw [fX9_bestSet_l14, if_neg (nI_nlt (show i ≤ can by omega) (by omega))]
    simp only [ow_lt, ow_bd, sub_nI (show i < 2 ^ 31 by omega) (show can < 2 ^ 31 by omega), nI_1]
    by_cases c1 : i &&& can = i
    · rw [if_pos c1, X_pays hXs hw h10 hp hc c1]
      simp only [Option.bind_some]
      by_cases c2 : ctN law (lf nb) si hu sp w p can n (bqB (ctN law (lf nb) si hu sp w p can n) can i) ≤ payS si hu w p can i n
      · have els : bqB (ctN law (lf nb) si hu sp w p can n) can (i + 1) = bqB (ctN law (lf nb) si hu sp w p can n) can i := by rw [hls, if_neg (fun hh => by omega)]
        rw [if_pos (nI_le c2 (by omega)), els]
        exact ⟨((nI (bqB (ctN law (lf nb) si hu sp w p can n) can i), nI (ctN law (lf nb) si hu sp w p can n (bqB (ctN law (lf nb) si hu sp w p can n) can i))), s), rfl, rfl, rfl, e3'⟩
      · obtain ⟨s2, d1, d2⟩ := X_cost hXs hw h10 hp hc c1
        rw [if_neg (nI_ge (by omega) (by omega)), d1]
        simp only [Option.bind_some]
        by_cases c3 : ctN law (lf nb) si hu sp w p can n (bqB (ctN law (lf nb) si hu sp w p can n) can i) ≤ ctN law (lf nb) si hu sp w p can n i
        · have els : bqB (ctN law (lf nb) si hu sp w p can n) can (i + 1) = bqB (ctN law (lf nb) si hu sp w p can n) can i := by rw [hls, if_neg (fun hh => by omega)]
          rw [if_pos (nI_le c3 (by omega)), els]
          exact ⟨((nI (bqB (ctN law (lf nb) si hu sp w p can n) can i), nI (ctN law (lf nb) si hu sp w p can n (bqB (ctN law (lf nb) si hu sp w p can n) can i))), s2), rfl, rfl, rfl, e3'.tr d2⟩
        · have els : bqB (ctN law (lf nb) si hu sp w p can n) can (i + 1) = i := by rw [hls, if_pos ⟨c1, by omega⟩]
          rw [if_neg (nI_ge (by omega) (by omega)), els]
          exact ⟨((nI i, nI (ctN law (lf nb) si hu sp w p can n i)), s2), rfl, rfl, rfl, e3'.tr d2⟩
    · have els : bqB (ctN law (lf nb) si hu sp w p can n) can (i + 1) = bqB (ctN law (lf nb) si hu sp w p can n) can i := by rw [hls, if_neg (fun hh => c1 hh.1)]
      rw [if_neg c1, els]
      exact ⟨((nI (bqB (ctN law (lf nb) si hu sp w p can n) can i), nI (ctN law (lf nb) si hu sp w p can n (bqB (ctN law (lf nb) si hu sp w p can n) can i))), s), rfl, rfl, rfl, e3'⟩
  · intro m b ⟨e1, e2, e3⟩
    obtain ⟨⟨y1, y2⟩, s⟩ := b
    have e1' : y1 = nI (bqB (ctN law (lf nb) si hu sp w p can n) can (can + 1)) := e1
    subst e1'
    refine ⟨s, ?_, e3⟩
    show fX9_bestSet_l14 (nI p) (nI can) (m + 1) (nI (bqB (ctN law (lf nb) si hu sp w p can n) can (can + 1))) y2 (nI (can + 1)) s = _
    rw [fX9_bestSet_l14, if_pos (nI_lt (show can < can + 1 by omega) (by omega))]
theorem M_best1 {n w u tl : Nat} {tb : Nat → Nat} {np : Nat} {kn si hu : Nat → Nat} {sp : Nat → Int32} {nb : Nat} {who : Nat → Nat} {fac ans cst : Nat → Int32} {lf : Nat → Nat → Bool} {law : List aC} {σ : ow_S} (hM : RM n w u tl tb np kn si hu sp nb who fac ans cst lf law σ) (hw : w < 2 ^ 31) (h10 : n ≤ 10) {p : Nat} (hp : p < np) {K : Int32 → ow_S → Option (Int32 × ow_S)} (Q : Option (Int32 × ow_S) → Prop) (hK : ∀ s, meq σ s → Q (K (nI (bs (svP law np kn si hu w p) n)) s)) : Q (fX10_best_l25 K (nI p) ow_FU (nI 0) (nI 0) σ) := by
  refine lp (β := Int32 × ow_S) (F := fun m i b => fX10_best_l25 K (nI p) m b.1 i b.2) (Inv := fun i b => b.1 = nI (bs (svP law np kn si hu w p) i) ∧ meq σ b.2) (Q := Q) n ?_ ?_ n 0 ow_FU (nI 0, σ) (Nat.zero_add _) (Nat.lt_of_le_of_lt h10 (by decide)) ⟨rfl, meq.rf⟩
  · intro m i b hi ⟨h0, h1⟩
    obtain ⟨y, s⟩ := b
    have h0' : y = nI (bs (svP law np kn si hu w p) i) := h0
    have h1' : meq σ s := h1
    subst h0'
    have hMs := hM.me h1'
    obtain ⟨s1, a1, a2⟩ := M_canOwn hMs.2.2.2.2.2.2 hMs.2.2.1 hMs.1.2.1 hw hp (show i < 10 by omega)
    have e : bs (svP law np kn si hu w p) (i + 1) = bs (svP law np kn si hu w p) i + (if svP law np kn si hu w p i = true then 2 ^ i else 0) := rfl
    refine Or.inr ⟨(nI (bs (svP law np kn si hu w p) (i + 1)), s1), ?_, rfl, h1'.tr a2.me⟩
    show fX10_best_l25 K (nI p) (m + 1) (nI (bs (svP law np kn si hu w p) i)) (nI i) s = fX10_best_l25 K (nI p) m (nI (bs (svP law np kn si hu w p) (i + 1))) (nI (i + 1)) s1
    rw [fX10_best_l25, hMs.1.1, if_neg (nI_ge hi (by omega)), a1, bdS, e]
    simp only [ow_lt, bs_or (P := svP law np kn si hu w p) (show i < 10 by omega), bs_or0, nI_1, bi_eq0]
    rw [show sy law np kn si hu p i (tvN w i) = svP law np kn si hu w p i from rfl]
    cases svP law np kn si hu w p i <;> rfl
  · intro m b ⟨h0, h1⟩
    obtain ⟨y, s⟩ := b
    have h0' : y = nI (bs (svP law np kn si hu w p) n) := h0
    have h1' : meq σ s := h1
    subst h0'
    show Q (fX10_best_l25 K (nI p) (m + 1) (nI (bs (svP law np kn si hu w p) n)) (nI n) s)
    rw [fX10_best_l25, (hM.me h1').1.1, if_pos (nI_le (Nat.le_refl n) (by omega))]
    exact hK s h1'
theorem M_best2 {n w u tl : Nat} {tb : Nat → Nat} {np : Nat} {kn si hu : Nat → Nat} {sp : Nat → Int32} {nb : Nat} {who : Nat → Nat} {fac ans cst : Nat → Int32} {lf : Nat → Nat → Bool} {law : List aC} {σ : ow_S} (hM : RM n w u tl tb np kn si hu sp nb who fac ans cst lf law σ) (hw : w < 2 ^ 31) (h10 : n ≤ 10) {p set base : Nat} (hp : p < np) (hs : set < 1024) {K : Int32 → ow_S → Option (Int32 × ow_S)} : fX10_best_l113 K (nI p) (nI set) ow_FU (nI base) (nI 0) σ = K (nI (base + hsS hu w p set n)) σ := by
  have h5 := hM.2.2.1.2.1
  refine lp (β := Int32 × ow_S) (F := fun m i b => fX10_best_l113 K (nI p) (nI set) m b.1 i b.2) (Inv := fun i b => b = (nI (base + hsS hu w p set i), σ)) (Q := fun r => r = K (nI (base + hsS hu w p set n)) σ) n ?_ ?_ n 0 ow_FU (nI base, σ) (Nat.zero_add _) (Nat.lt_of_le_of_lt h10 (by decide)) rfl
  · intro m i b hi h0
    subst h0
    refine Or.inr ⟨(nI (base + hsS hu w p set (i + 1)), σ), ?_, rfl⟩
    have e : hsS hu w p set (i + 1) = hsS hu w p set i + (if bt set i = true then hu (hix p i (tvN w i)) else 0) := rfl
    show fX10_best_l113 K (nI p) (nI set) (m + 1) (nI (base + hsS hu w p set i)) (nI i) σ = fX10_best_l113 K (nI p) (nI set) m (nI (base + hsS hu w p set (i + 1))) (nI (i + 1)) σ
    rw [fX10_best_l113, hM.1.1, if_neg (nI_ge hi (by omega)), M_has (by omega) (by omega), bdS, ltE, e]
    by_cases c : bt set i = true
    · rw [c, if_neg b1t, if_pos rfl, M_harmNow hM.2.2.1 hM.1.2.1 hw (by omega) (by omega), bdS]
      simp only [ow_lt, nI_add, nI_1, Nat.add_assoc]
    · rw [Bool.not_eq_true] at c
      rw [c, if_pos b0f, if_neg (by decide), Nat.add_zero]
      simp only [ow_lt, nI_1, Int32.add_zero]
  · intro m b h0
    subst h0
    show fX10_best_l113 K (nI p) (nI set) (m + 1) (nI (base + hsS hu w p set n)) (nI n) σ = _
    rw [fX10_best_l113, hM.1.1, if_pos (nI_le (Nat.le_refl n) (by omega))]
theorem M_best3 {n w u tl : Nat} {tb : Nat → Nat} {np : Nat} {kn si hu : Nat → Nat} {sp : Nat → Int32} {nb : Nat} {who : Nat → Nat} {fac ans cst : Nat → Int32} {lf : Nat → Nat → Bool} {law : List aC} {σ : ow_S} (hM : RM n w u tl tb np kn si hu sp nb who fac ans cst lf law σ) (hw : w < 2 ^ 31) (h10 : n ≤ 10) (h40 : nb ≤ 40) {set : Nat} (hs : set < 2 ^ n) {K : ow_S → Option (Int32 × ow_S)} (Q : Option (Int32 × ow_S) → Prop) (hK : ∀ s, m23 σ s → OT (kpS (lf nb) w set n) s → Q (K s)) : Q (fX10_best_l157 K (nI set) ow_FU (nI 0) σ) := by
  have hp := pow_le h10
  refine lp (F := fX10_best_l157 K (nI set)) (Inv := fun i s => m23 σ s ∧ ∀ v, v < i → s.1 23 v = bi (kpS (lf nb) w set n v)) (Q := Q) 1024 ?_ ?_ 1024 0 ow_FU σ rfl (by decide) ⟨fun _ _ => rfl, fun v hv => absurd hv (by omega)⟩
  · intro m i s hi ⟨h1, h2⟩
    have hMs := hM.me h1.me
    refine Or.inr ⟨ow_setI s 23 i (bi (kpS (lf nb) w set n i)), ?_, fun c hc => by rw [gIc _ _ _ _ _ hc]; exact h1 c hc, fun v hv => ?_⟩
    · have e1 : (nI i &&& nI set = nI w &&& nI set) ↔ i &&& set = w &&& set := by
        rw [and_nI (by omega) (by omega), and_nI hw (by omega)]
        exact nI_eq (Nat.lt_of_le_of_lt Nat.and_le_left (by omega)) (Nat.lt_of_le_of_lt Nat.and_le_left hw)
      have e2 : kpS (lf nb) w set n i = (lf nb i && decide (i &&& set = w &&& set)) := by
        apply Bool.eq_iff_iff.mpr
        rw [kpS_t, Bool.and_eq_true, decide_eq_true_eq, and_ag hs]
      rw [fX10_best_l157, if_neg (show ¬ (1024 : Int32) ≤ nI i from nI_ge (b := 1024) hi (by decide)), M_isLeftNow hMs.2.2.2.2.1.1 h40 hMs.2.2.2.2.2.1 hi, bdS, e2]
      simp only [ow_lt, hMs.1.2.1, e1, ow_in_nI hi (show (1024 : Nat) < 2 ^ 31 by decide), if_true, nI_clamp (show i < 2 ^ 31 by omega), nar_0, nar_1, nI_1, bi_eq0]
      by_cases c1 : lf nb i = true
      · rw [c1]
        by_cases c2 : i &&& set = w &&& set
        · rw [if_neg (by decide), if_pos c2, decide_eq_true c2]; rfl
        · rw [if_neg (by decide), if_neg c2, decide_eq_false c2]; rfl
      · rw [Bool.not_eq_true] at c1
        rw [c1, if_pos rfl]; rfl
    · rw [gIs]
      by_cases e : v = i
      · rw [if_pos e, e]
      · rw [if_neg e]; exact h2 v (by omega)
  · intro m s ⟨h1, h2⟩
    rw [fX10_best_l157, if_pos (show (1024 : Int32) ≤ nI 1024 by decide)]
    exact hK s h1 h2
theorem ctN_leM {n w u tl : Nat} {tb : Nat → Nat} {np : Nat} {kn si hu : Nat → Nat} {sp : Nat → Int32} {nb : Nat} {who : Nat → Nat} {fac ans cst : Nat → Int32} {lf : Nat → Nat → Bool} {law : List aC} {σ : ow_S} (hM : RM n w u tl tb np kn si hu sp nb who fac ans cst lf law σ) (h10 : n ≤ 10) (p can set : Nat) : payS si hu w p can set n ≤ ctN law (lf nb) si hu sp w p can n set ∧ ctN law (lf nb) si hu sp w p can n set ≤ 2979 := by
  have h1 := payS_le hM.2.2.1.2.2.2.2.2.2.2 hM.2.2.1.2.2.2.2.2.2.1 w p can set h10
  have h2 := (sntN_eq law n (kpS (lf nb) w set n) (nI p) (sp p + nI (payS si hu w p can set n))).2
  unfold ctN
  omega
theorem M_best4 {n w u tl : Nat} {tb : Nat → Nat} {np : Nat} {kn si hu : Nat → Nat} {sp : Nat → Int32} {nb : Nat} {who : Nat → Nat} {fac ans cst : Nat → Int32} {lf : Nat → Nat → Bool} {law : List aC} {σ : ow_S} (hM : RM n w u tl tb np kn si hu sp nb who fac ans cst lf law σ) (hw : w < 2 ^ 31) (h10 : n ≤ 10) (h40 : nb ≤ 40) (hT : ∀ x, 2 ^ n ≤ x → lf nb x = false) {p can : Nat} (hp : p < np) (hc : can < 2 ^ n) {K : Int32 → Int32 → ow_S → Option (Int32 × ow_S)} (Q : Option (Int32 × ow_S) → Prop) (hK : ∀ s, meq σ s → Q (K (nI (bqB (ctN law (lf nb) si hu sp w p can n) can (2 ^ n))) (nI (ctN law (lf nb) si hu sp w p can n (bqB (ctN law (lf nb) si hu sp w p can n) can (2 ^ n)))) s)) : Q (fX10_best_l70 K (nI p) (nI can) ow_FU (-1) (nI 0) (nI 0) σ) := by
  have h5 := hM.2.2.1.2.1
  have hpp := pow_le h10
  have hp1 := pow_pos2 n
  refine lp (β := (Int32 × Int32) × ow_S) (F := fun m i b => fX10_best_l70 K (nI p) (nI can) m b.1.1 b.1.2 i b.2) (Inv := fun i b => (if i = 0 then b.1.1 = -1 else b.1.1 = nI (bqB (ctN law (lf nb) si hu sp w p can n) can i) ∧ b.1.2 = nI (ctN law (lf nb) si hu sp w p can n (bqB (ctN law (lf nb) si hu sp w p can n) can i))) ∧ meq σ b.2) (Q := Q) (2 ^ n) ?_ ?_ (2 ^ n) 0 ow_FU ((-1, nI 0), σ) (Nat.zero_add _) (Nat.lt_of_le_of_lt hpp (by decide)) ⟨by rw [if_pos rfl], meq.rf⟩
  · intro m i b hi ⟨e1, e3⟩
    obtain ⟨⟨y1, y2⟩, s⟩ := b
    have e3' : meq σ s := e3
    have e1' : if i = 0 then y1 = -1 else y1 = nI (bqB (ctN law (lf nb) si hu sp w p can n) can i) ∧ y2 = nI (ctN law (lf nb) si hu sp w p can n (bqB (ctN law (lf nb) si hu sp w p can n) can i)) := e1
    have hMs := hM.me e3'
    have hls : bqB (ctN law (lf nb) si hu sp w p can n) can (i + 1) = if i &&& can = i ∧ ctN law (lf nb) si hu sp w p can n i < ctN law (lf nb) si hu sp w p can n (bqB (ctN law (lf nb) si hu sp w p can n) can i) then i else bqB (ctN law (lf nb) si hu sp w p can n) can i := rfl
    have l1 := (ctN_leM hM h10 p can (bqB (ctN law (lf nb) si hu sp w p can n) can i)).2
    obtain ⟨l2, l3⟩ := ctN_leM hM h10 p can i
    right
    show ∃ b' : (Int32 × Int32) × ow_S, fX10_best_l70 K (nI p) (nI can) (m + 1) y1 y2 (nI i) s = fX10_best_l70 K (nI p) (nI can) m b'.1.1 b'.1.2 (nI (i + 1)) b'.2 ∧ (if i + 1 = 0 then b'.1.1 = -1 else b'.1.1 = nI (bqB (ctN law (lf nb) si hu sp w p can n) can (i + 1)) ∧ b'.1.2 = nI (ctN law (lf nb) si hu sp w p can n (bqB (ctN law (lf nb) si hu sp w p can n) can (i + 1)))) ∧ meq σ b'.2
    suffices H : ∃ b' : (Int32 × Int32) × ow_S, fX10_best_l70 K (nI p) (nI can) (m + 1) y1 y2 (nI i) s = fX10_best_l70 K (nI p) (nI can) m b'.1.1 b'.1.2 (nI (i + 1)) b'.2 ∧ (b'.1.1 = nI (bqB (ctN law (lf nb) si hu sp w p can n) can (i + 1)) ∧ b'.1.2 = nI (ctN law (lf nb) si hu sp w p can n (bqB (ctN law (lf nb) si hu sp w p can n) can (i + 1)))) ∧ meq σ b'.2 by
      obtain ⟨b', h1, h2, h3⟩ := H
      exact ⟨b', h1, by rw [if_neg (show ¬ i + 1 = 0 by omega)]; exact h2, h3⟩
    rw [fX10_best_l70, M_worldMany hMs.1.1 h10, bdS, if_neg (nI_ge hi (by omega)), ltE]
    by_cases c1 : i &&& can = i
    · have hle := sub_le c1
      have hps := (pop_sub (show i < 1024 by omega) (show can < 1024 by omega) c1).1
      rw [if_pos ((sub_nI (by omega) (by omega)).mpr c1), M_sizeOf (show can < 1024 by omega), bdS, M_sizeOf (show i < 1024 by omega), bdS, if_pos (ow_in_nI (show p < 5 by omega) (by decide)), ltE, nI_clamp (show p < 2 ^ 31 by omega), hMs.2.2.1.2.2.2.1 p (by omega), pk_sub hps, pk_mul, z0, M_best2 hMs hw h10 hp (show i < 1024 by omega)]
      have epay : (pop can - pop i) * si p + hsS hu w p i n = payS si hu w p can i n := by unfold payS; rw [Nat.mul_comm]
      rw [epay]
      refine M_best3 hMs hw h10 h40 hi (fun r => ∃ b' : (Int32 × Int32) × ow_S, r = fX10_best_l70 K (nI p) (nI can) m b'.1.1 b'.1.2 (nI (i + 1)) b'.2 ∧ (b'.1.1 = nI (bqB (ctN law (lf nb) si hu sp w p can n) can (i + 1)) ∧ b'.1.2 = nI (ctN law (lf nb) si hu sp w p can n (bqB (ctN law (lf nb) si hu sp w p can n) can (i + 1)))) ∧ meq σ b'.2) (fun s2 q2 hO => ?_)
      have hM2 := hMs.me q2.me
      obtain ⟨s3, d1, d2⟩ := M_sen hM2.1.1 h10 hM2.2.2.2.2.2.2 hO (fun v hv => by
        cases hk : kpS (lf nb) w i n v with
        | false => rfl
        | true =>
          have := ((kpS_t n v).mp hk).1
          rw [hT v hv] at this
          cases this) (nI p) (sp p + nI (payS si hu w p can i n))
      rw [if_pos (ow_in_nI (show p < 5 by omega) (by decide)), hM2.2.2.2.1 p (by omega), d1, bdS, ltE, ltE, (sntN_eq law n _ _ _).1, nI_add]
      rw [show payS si hu w p can i n + sntN law n (kpS (lf nb) w i n) (nI p) (sp p + nI (payS si hu w p can i n)) = ctN law (lf nb) si hu sp w p can n i from rfl]
      have q3 : meq σ s3 := (e3'.tr q2.me).tr d2.me
      by_cases c0 : i = 0
      · rw [if_pos c0] at e1'
        rw [e1', if_pos rfl]
        have els : bqB (ctN law (lf nb) si hu sp w p can n) can (i + 1) = i := by
          subst c0
          rw [hls]
          split <;> rfl
        rw [els]
        exact ⟨((nI i, nI (ctN law (lf nb) si hu sp w p can n i)), s3), congrArg (fun v0 => fX10_best_l70 K (nI p) (nI can) m (nI i) (nI (ctN law (lf nb) si hu sp w p can n i)) v0 s3) (nI_1 i), ⟨rfl, rfl⟩, q3⟩
      · rw [if_neg c0] at e1'
        obtain ⟨ey1, ey2⟩ := e1'
        have hbs := sub_le (bqB_sub (ctN law (lf nb) si hu sp w p can n) can i)
        rw [ey1, ey2, if_neg (ni_m1 (by omega))]
        by_cases c2 : ctN law (lf nb) si hu sp w p can n i < ctN law (lf nb) si hu sp w p can n (bqB (ctN law (lf nb) si hu sp w p can n) can i)
        · have els : bqB (ctN law (lf nb) si hu sp w p can n) can (i + 1) = i := by rw [hls, if_pos ⟨c1, c2⟩]
          rw [if_pos (nI_lt c2 (by omega)), els]
          exact ⟨((nI i, nI (ctN law (lf nb) si hu sp w p can n i)), s3), congrArg (fun v0 => fX10_best_l70 K (nI p) (nI can) m (nI i) (nI (ctN law (lf nb) si hu sp w p can n i)) v0 s3) (nI_1 i), ⟨rfl, rfl⟩, q3⟩
        · have els : bqB (ctN law (lf nb) si hu sp w p can n) can (i + 1) = bqB (ctN law (lf nb) si hu sp w p can n) can i := by rw [hls, if_neg (fun hh => c2 hh.2)]
          rw [if_neg (nI_nlt (by omega) (by omega)), els]
          exact ⟨((nI (bqB (ctN law (lf nb) si hu sp w p can n) can i), nI (ctN law (lf nb) si hu sp w p can n (bqB (ctN law (lf nb) si hu sp w p can n) can i))), s3), congrArg (fun v0 => fX10_best_l70 K (nI p) (nI can) m (nI (bqB (ctN law (lf nb) si hu sp w p can n) can i)) (nI (ctN law (lf nb) si hu sp w p can n (bqB (ctN law (lf nb) si hu sp w p can n) can i))) v0 s3) (nI_1 i), ⟨rfl, rfl⟩, q3⟩
    · have c0 : ¬ i = 0 := fun e => c1 (by rw [e]; exact Nat.zero_and can)
      rw [if_neg c0] at e1'
      obtain ⟨ey1, ey2⟩ := e1'
      have els : bqB (ctN law (lf nb) si hu sp w p can n) can (i + 1) = bqB (ctN law (lf nb) si hu sp w p can n) can i := by rw [hls, if_neg (fun hh => c1 hh.1)]
      rw [if_neg (fun hh => c1 ((sub_nI (by omega) (by omega)).mp hh)), els]
      exact ⟨((y1, y2), s), congrArg (fun v0 => fX10_best_l70 K (nI p) (nI can) m y1 y2 v0 s) (nI_1 i), ⟨ey1, ey2⟩, e3'⟩
  · intro m b ⟨e1, e3⟩
    obtain ⟨⟨y1, y2⟩, s⟩ := b
    have e3' : meq σ s := e3
    have e1' : if 2 ^ n = 0 then y1 = -1 else y1 = nI (bqB (ctN law (lf nb) si hu sp w p can n) can (2 ^ n)) ∧ y2 = nI (ctN law (lf nb) si hu sp w p can n (bqB (ctN law (lf nb) si hu sp w p can n) can (2 ^ n))) := e1
    rw [if_neg (show ¬ 2 ^ n = 0 by omega)] at e1'
    obtain ⟨ey1, ey2⟩ := e1'
    subst ey1 ey2
    show Q (fX10_best_l70 K (nI p) (nI can) (m + 1) _ _ (nI (2 ^ n)) s)
    rw [fX10_best_l70, M_worldMany (hM.me e3').1.1 h10, bdS, if_pos (nI_le (Nat.le_refl _) (by omega))]
    exact hK s e3'
theorem cl_best : si_best ow_R := by
  intro σx σm a1 a2 ⟨n, w, u, tl, tb, np, kn, si, hu, sp, nb, who, fac, ans, cst, lf, law, hX, hM, hW⟩
  have h40 := hW.2.2.1
  have h10 := hW.1.2.1
  have hpp := pow_le h10
  have hwn := hW.1.2.2.1
  have hw : w < 2 ^ 31 := by omega
  have hR : ow_R σx σm := ⟨n, w, u, tl, tb, np, kn, si, hu, sp, nb, who, fac, ans, cst, lf, law, hX, hM, hW⟩
  have hT : ∀ x, 2 ^ n ≤ x → lf nb x = false := fun x hx => hW.2.2.2.2.1 nb x (Nat.le_refl _) hx
  have h5 := hX.2.2.1.2.1
  rw [fX9_best, fX10_best, X_has hX.2.2.1.1 h5, M_isPerson hM.2.2.1.1 h5, bdS, bdS, ltE, ltE, M_lies (x := a2) (A := 0) (B := 1) (a := 0) (b := 1) rfl rfl, bdS]
  by_cases c1 : isP np a1 = true
  · obtain ⟨p, hp, rfl⟩ := isP_nI (show np < 2 ^ 31 by omega) c1
    rw [c1, if_neg b1t, if_neg b1t, rg (L := 0) (H := 1) (l := 0) (h := 1) rfl rfl]
    by_cases c2 : inR 0 1 a2 = true
    · rw [if_pos c2, c2, if_neg b1t]
      have hcn := bs_lt (svP law np kn si hu w p) n
      obtain ⟨s1, d1, d2⟩ := X_say hX hw h10 hp
      have hX1 := hX.xe d2
      obtain ⟨s2, e1, e2⟩ := X_bestSet hX1 hw h10 (can := bs (svP law np kn si hu w p) n) hp (by omega)
      have hX2 := hX1.xe e2
      have hbs := bqB_sub (ctN law (lf nb) si hu sp w p (bs (svP law np kn si hu w p) n) n) (bs (svP law np kn si hu w p) n) (bs (svP law np kn si hu w p) n + 1)
      obtain ⟨s3, g1, g2⟩ := X_cost hX2 hw h10 (can := bs (svP law np kn si hu w p) n) hp (by omega) hbs
      have hX3 := hX2.xe g2
      have eend : bqB (ctN law (lf nb) si hu sp w p (bs (svP law np kn si hu w p) n) n) (bs (svP law np kn si hu w p) n) (2 ^ n) = bqB (ctN law (lf nb) si hu sp w p (bs (svP law np kn si hu w p) n) n) (bs (svP law np kn si hu w p) n) (bs (svP law np kn si hu w p) n + 1) := by
        have := bqB_end (ctN law (lf nb) si hu sp w p (bs (svP law np kn si hu w p) n) n) (bs (svP law np kn si hu w p) n) (2 ^ n - (bs (svP law np kn si hu w p) n + 1))
        rwa [show bs (svP law np kn si hu w p) n + 1 + (2 ^ n - (bs (svP law np kn si hu w p) n + 1)) = 2 ^ n by omega] at this
      rw [d1, bdS, e1, bdS, ltE, z0]
      refine M_best1 hM hw h10 hp (fun r => ∃ (r_1 : Int32) (σx2 σm2 : ow_S), _ = some (r_1, σx2) ∧ r = some (r_1, σm2) ∧ ow_R σx2 σm2) (fun s4 q4 => ?_)
      refine M_best4 (hM.me q4) hw h10 h40 hT hp hcn (fun r => ∃ (r_1 : Int32) (σx2 σm2 : ow_S), _ = some (r_1, σx2) ∧ r = some (r_1, σm2) ∧ ow_R σx2 σm2) (fun s5 q5 => ?_)
      rw [eend, ltE]
      by_cases c3 : a2 = nI 0
      · rw [if_pos c3, if_pos c3, g1, bdS]
        exact ⟨_, _, _, rfl, rfl, n, w, u, tl, tb, np, kn, si, hu, sp, nb, who, fac, ans, cst, lf, law, hX3, (hM.me q4).me q5, hW⟩
      · rw [if_neg c3, if_neg c3]
        exact ⟨_, _, _, rfl, rfl, n, w, u, tl, tb, np, kn, si, hu, sp, nb, who, fac, ans, cst, lf, law, hX2, (hM.me q4).me q5, hW⟩
    · rw [if_neg c2]
      rw [Bool.not_eq_true] at c2
      rw [c2, if_pos b0f]
      exact ⟨_, _, _, rfl, rfl, hR⟩
  · rw [Bool.not_eq_true] at c1
    rw [c1, if_pos b0f, if_pos b0f]
    exact ⟨_, _, _, rfl, rfl, hR⟩
