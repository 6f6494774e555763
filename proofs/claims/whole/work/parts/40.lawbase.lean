/-! THE CLAIM OUT OF ONE WALK OF THE LAW'S BODY. Your part is whole_start (and what it stands on); all else here is the same for every law, but numbers. -/
def R_law : String := "OwnHurtLaw"
def lw_P (b : Addr) (xs : List Int32) (args : Array Value) (s : State) : Prop := args = #[.ref b] ∧ s.IntsAt b xs ∧ xs.length ≤ 384 ∧ (Jvm.Cond.and given_1 narrow_1).before args s = true
def lw_Q (_ : Array Value) (s : State) (o : Outcome) (t : State) : Prop := o = .returned (some (.int 1)) ∧ Framed s o t [] 600000 7302250
def lw_Z (below : List Frame) (a : Array Value) (s : State) : State → Prop := fun t => ∃ o, t.status = .running ∧ Ended t below o ∧ lw_Q a s o t
/-- the law's own end, with 1 on the stack, nothing written that was there before, its room as the claim has it -/
theorem lw_ret {p : Program} {l : Launch} {e : Env} {s : State} {m : MethodId} {below : List Frame} {meth : Method} {c : Code} {b : Nat} (hx : p.tables.exec = Jvm.exec) (hb : c.code = code) (hr : meth.sig.returnType = ret) (hlocks : meth.locks = false) {pc : Nat} {H : Heap} {ls : Array Slot} (hdg : decode code pc = .ok (.ireturn, 1)) : W p l e room_1 s m #[Value.ref b] below meth c H [] 600000 7302250 (lw_Z below #[Value.ref b] s) (F0 m pc ls [.int 1]) := by
  intro T hT X
  obtain ⟨fs, hret, hrun, hended, hW, hframe⟩ := X.leave (v := some (.int 1)) (hlocks := hlocks) (fun h => by rw [hr] at h; cases h)
  have hmeth' : T.vm.method? m = some meth := X.method'
  refine ⟨T.setFrames fs, ?_, .returned (some (.int 1)), hrun, hended, rfl, ⟨_, rfl⟩, hW, hframe⟩
  jvm_step X.here [X.here.top, hx, hb, hdg, hmeth', hr, ret, narrow_b1]
  (try refine ⟨rfl, ?_⟩); (try refine ⟨rfl, ?_⟩)
  first | (intro acts; rw [hret _ acts rfl rfl rfl]) | rw [hret _ _ rfl rfl rfl]
  exact Steps.refl _
/-- what holds at the law's entry: the machine, the code, the tables' words (any of lw_tbl by 'hts w (by decide +kernel)'), the script of L ints xs at the cell b, what the Statement gives of the start (any of its parts by flat_of_before) -/
def lw_At (p : Program) (s : State) (m : MethodId) (meth : Method) (c : Code) (b L : Nat) (xs : Nat → Int32) : Prop :=
  p.tables.exec = Jvm.exec ∧ c.code = code ∧ meth.sig.returnType = ret ∧ c.maxLocals = 4 ∧ s.vm.findClass R_law = some m.cls ∧ (∀ w ∈ lw_tbl, w.before #[Value.ref b] s = true) ∧ va_X b L xs s s.heap ∧ b < s.heap.size ∧ meth.locks = false ∧ (Jvm.Cond.and given_1 narrow_1).before #[Value.ref b] s = true
/-- what the Statement gives of the two static arrays and of the text -/
theorem lw_RO {args : Array Value} {s : State} (hts : ∀ w ∈ lw_tbl, w.before args s = true) (hgv : (Jvm.Cond.and given_1 narrow_1).before args s = true) : ∃ t : Nat → Nat, ow_RO t (fun q : Nat => s.heap.size ≤ q) s s.heap := by
  have hs := flat_of_before _ hgv
  have hA : ∀ a : Nat, a < s.heap.size → ¬ (fun q : Nat => s.heap.size ≤ q) a := fun a h => Nat.not_le.mpr h
  obtain ⟨t0, e0, T0⟩ := va_Tof (tm := .static "OwnHurt$Plan" "POWERS" "[I") (ty := .int) (N := 10) (f := ow_pow) (A := fun q : Nat => s.heap.size ≤ q) (by decide) (hs _ (by decide +kernel)) (va_eqt (hs _ (by decide +kernel))) (fun j hj => by
    rcases (show j = 0 ∨ j = 1 ∨ j = 2 ∨ j = 3 ∨ j = 4 ∨ j = 5 ∨ j = 6 ∨ j = 7 ∨ j = 8 ∨ j = 9 by omega) with rfl | rfl | rfl | rfl | rfl | rfl | rfl | rfl | rfl | rfl
    · exact va_eqt (z := 1) (hs _ (by decide +kernel))
    · exact va_eqt (z := 3) (hs _ (by decide +kernel))
    · exact va_eqt (z := 9) (hs _ (by decide +kernel))
    · exact va_eqt (z := 27) (hs _ (by decide +kernel))
    · exact va_eqt (z := 81) (hs _ (by decide +kernel))
    · exact va_eqt (z := 243) (hs _ (by decide +kernel))
    · exact va_eqt (z := 729) (hs _ (by decide +kernel))
    · exact va_eqt (z := 2187) (hs _ (by decide +kernel))
    · exact va_eqt (z := 6561) (hs _ (by decide +kernel))
    · exact va_eqt (z := 19683) (hs _ (by decide +kernel))) hA
  obtain ⟨t1, e1, T1⟩ := va_Tof (tm := .static "OwnHurt$Worlds" "TRUE_IN_WORD" "[J") (ty := .long) (N := 6) (f := ow_tru) (A := fun q : Nat => s.heap.size ≤ q) (by decide) (hs _ (by decide +kernel)) (va_eqt (hs _ (by decide +kernel))) (fun j hj => by
    rcases (show j = 0 ∨ j = 1 ∨ j = 2 ∨ j = 3 ∨ j = 4 ∨ j = 5 by omega) with rfl | rfl | rfl | rfl | rfl | rfl
    · exact va_eqtl (z := -6148914691236517206) (hs _ (by decide +kernel))
    · exact va_eqtl (z := -3689348814741910324) (hs _ (by decide +kernel))
    · exact va_eqtl (z := -1085102592571150096) (hs _ (by decide +kernel))
    · exact va_eqtl (z := -71777214294589696) (hs _ (by decide +kernel))
    · exact va_eqtl (z := -281470681808896) (hs _ (by decide +kernel))
    · exact va_eqtl (z := -4294967296) (hs _ (by decide +kernel))) hA
  have hex : (Cond.exactly (.string "OwnHurt$Reader" 120) "java/lang/String").before args s = true := hs _ (by decide +kernel)
  obtain ⟨t2, c, cA, kA, q1, q2, q3, q4, q5, q6, -⟩ := Cond.exactly_spec (args := args) (first := s) (o := none) (s := s) (idx := []) (t := .string "OwnHurt$Reader" 120) (cls := "java/lang/String") hex
  obtain ⟨t3, e3, T3⟩ := va_Tof (tm := .field (.string "OwnHurt$Reader" 120) "java/lang/String" "value" "[B") (ty := .byte) (N := 19) (f := ow_abc) (A := fun q : Nat => s.heap.size ≤ q) (by decide) (hs _ (by decide +kernel)) (va_eqt (hs _ (by decide +kernel))) (fun j hj => by
    rcases (show j = 0 ∨ j = 1 ∨ j = 2 ∨ j = 3 ∨ j = 4 ∨ j = 5 ∨ j = 6 ∨ j = 7 ∨ j = 8 ∨ j = 9 ∨ j = 10 ∨ j = 11 ∨ j = 12 ∨ j = 13 ∨ j = 14 ∨ j = 15 ∨ j = 16 ∨ j = 17 ∨ j = 18 by omega) with rfl | rfl | rfl | rfl | rfl | rfl | rfl | rfl | rfl | rfl | rfl | rfl | rfl | rfl | rfl | rfl | rfl | rfl | rfl
    · exact va_eqt (z := 97) (hs _ (by decide +kernel))
    · exact va_eqt (z := 98) (hs _ (by decide +kernel))
    · exact va_eqt (z := 99) (hs _ (by decide +kernel))
    · exact va_eqt (z := 100) (hs _ (by decide +kernel))
    · exact va_eqt (z := 101) (hs _ (by decide +kernel))
    · exact va_eqt (z := 102) (hs _ (by decide +kernel))
    · exact va_eqt (z := 103) (hs _ (by decide +kernel))
    · exact va_eqt (z := 104) (hs _ (by decide +kernel))
    · exact va_eqt (z := 105) (hs _ (by decide +kernel))
    · exact va_eqt (z := 106) (hs _ (by decide +kernel))
    · exact va_eqt (z := 107) (hs _ (by decide +kernel))
    · exact va_eqt (z := 109) (hs _ (by decide +kernel))
    · exact va_eqt (z := 112) (hs _ (by decide +kernel))
    · exact va_eqt (z := 116) (hs _ (by decide +kernel))
    · exact va_eqt (z := 118) (hs _ (by decide +kernel))
    · exact va_eqt (z := 119) (hs _ (by decide +kernel))
    · exact va_eqt (z := 120) (hs _ (by decide +kernel))
    · exact va_eqt (z := 121) (hs _ (by decide +kernel))
    · exact va_eqt (z := 122) (hs _ (by decide +kernel))) hA
  refine ⟨fun k => List.getD [t0, t1, t2, t3] k 0, va_Zref (hts _ (by decide +kernel)) (hts _ (by decide +kernel)) e0 hA, T0, va_Zref (hts _ (by decide +kernel)) (hts _ (by decide +kernel)) e1 hA, T1, ?_, ⟨cA, q3, q5, by rw [q6]; exact q2, hA t2 (Array.getElem?_eq_some_iff.mp q3).1⟩, vk_OFof q1 e3 hA, vk_OFof q1 (va_eqt (hs _ (by decide +kernel))) hA, T3, va_Zof (hts _ (by decide +kernel)) (hts _ (by decide +kernel)) (va_eqi (hs _ (by decide +kernel))) hA⟩
  exact vk_R.of (A := args) (hts (.stringRef "OwnHurt$Reader" 120 "abcdefghijkmptvwxyz") (by decide +kernel)) q1
theorem va_P_swap {D : va_G} {cl : List vw_C} {w1 w2 : va_W} {H : Heap} (h : va_P D cl (w1 ++ w2) H) : va_P D cl (w2 ++ w1) H := va_P.app (va_P_right h) (va_P_left h)
theorem va_D_swap {A : Nat → Prop} {w1 w2 : va_W} (h : va_D A (w1 ++ w2)) : va_D A (w2 ++ w1) := va_D.app (va_D_right h) (va_D_left h) (fun i j x y hx hy e => va_D_apart h j i y x hy hx e.symm)
/-- where the law's walk stands -/
abbrev lw_X : Type := Program × Launch × Env × State × MethodId × List Frame × Method × Code × Nat × Nat × (Nat → Int32) × va_G × (Nat → ClassId) × (Nat → Nat) × (Nat → Nat) × (Nat → Nat)
def lw_F (Y : lw_X) : Prop := match Y with
  | (p, _, _, s, m, _, meth, c, b, L, xs, D, cy, _, _, t) => p.tables.exec = Jvm.exec ∧ c.code = code ∧ c.maxLocals = 4 ∧ s.vm.findClass RL = some m.cls ∧ (∀ w ∈ ow_U, w.before #[Value.ref b] s = true) ∧ va_K D vwCl (ow_ty cy) s ∧ meth.sig.returnType = ret ∧ meth.locks = false ∧ ow_RO t (fun q : Nat => s.heap.size ≤ q) s s.heap ∧ va_X b L xs s s.heap ∧ b < s.heap.size
def lw_xs (Y : lw_X) : Nat → Int32 := Y.2.2.2.2.2.2.2.2.2.2.1
def lw_L (Y : lw_X) : Nat := Y.2.2.2.2.2.2.2.2.2.1
def lw_b (Y : lw_X) : Nat := Y.2.2.2.2.2.2.2.2.1
def lw_qx (Y : lw_X) : Nat → Nat := Y.2.2.2.2.2.2.2.2.2.2.2.2.2.1
def lw_qm (Y : lw_X) : Nat → Nat := Y.2.2.2.2.2.2.2.2.2.2.2.2.2.2.1
def lw_t (Y : lw_X) : Nat → Nat := Y.2.2.2.2.2.2.2.2.2.2.2.2.2.2.2
def lw_G (Y : lw_X) (pc : Nat) (i : Int32) (st : List Value) (σx σm : ow_S) : Prop := match Y with
  | (p, l, e, s, m, below, meth, c, b, _, _, D, cy, qx, qm, _) => ∀ (H : Heap) (locs : List Loc) (ls : Array Slot), lv_has ls 4 [(0, .ref b), (1, .ref (qx 0)), (2, .ref (qm 0)), (3, .int i)] → va_P D vwCl (ow_w layX qx cy σx ++ ow_w layM qm cy σm) H → va_D (fun q : Nat => s.heap.size ≤ q) (ow_w layX qx cy σx ++ ow_w layM qm cy σm) → va_S (fun q : Nat => s.heap.size ≤ q) s.heap H locs →
    W p l e room_1 s m #[Value.ref b] below meth c H locs 600000 7302250 (lw_Z below #[Value.ref b] s) (F0 m pc ls st)
section LWR
variable {Y : lw_X} {pc pc' : Nat} {i : Int32} {st : List Value} {σx σm : ow_S}
theorem l_a1 (F : lw_F Y) (hd : decode code pc = .ok (.aload_n 1, 1)) (hp : pc + 1 = pc') (h : lw_G Y pc' i (.ref (lw_qx Y 0) :: st) σx σm) : lw_G Y pc i st σx σm := by
  obtain ⟨p, l, e, s, m, below, meth, c, b, L, xs, D, cy, qx, qm, t⟩ := Y
  intro H locs ls hlv hP hD hS
  obtain ⟨hx, hb, hml, hown, hts, hK, hr, hlk, hro, hX, hbl⟩ := F
  subst hp
  exact lv_aload_n hx hb hd rfl (lv_at hlv 1 rfl) (h H locs ls hlv hP hD hS)
theorem l_a2 (F : lw_F Y) (hd : decode code pc = .ok (.aload_n 2, 1)) (hp : pc + 1 = pc') (h : lw_G Y pc' i (.ref (lw_qm Y 0) :: st) σx σm) : lw_G Y pc i st σx σm := by
  obtain ⟨p, l, e, s, m, below, meth, c, b, L, xs, D, cy, qx, qm, t⟩ := Y
  intro H locs ls hlv hP hD hS
  obtain ⟨hx, hb, hml, hown, hts, hK, hr, hlk, hro, hX, hbl⟩ := F
  subst hp
  exact lv_aload_n hx hb hd rfl (lv_at hlv 2 rfl) (h H locs ls hlv hP hD hS)
/-- an argument: script[i + n] -/
theorem l_arg (F : lw_F Y) {n : Int} {v : Int32} (hv : Int32.ofInt n = v) (hd0 : decode code pc = .ok (.aload_n 0, 1)) (hd1 : decode code (pc + 1) = .ok (.iload_n 3, 1)) (hd2 : decode code (pc + 2) = .ok (.iconst n, 1)) (hd3 : decode code (pc + 3) = .ok (.iadd, 1)) (hd4 : decode code (pc + 4) = .ok (.iaload, 1)) (hp : pc + 5 = pc') (hin : vp_in (i + v) (lw_L Y)) (h : lw_G Y pc' i (.int (lw_xs Y (i + v).toNatClampNeg) :: st) σx σm) : lw_G Y pc i st σx σm := by
  obtain ⟨p, l, e, s, m, below, meth, c, b, L, xs, D, cy, qx, qm, t⟩ := Y
  intro H locs ls hlv hP hD hS
  obtain ⟨hx, hb, hml, hown, hts, hK, hr, hlk, hro, hX, hbl⟩ := F
  subst hp
  have hbA : ¬ (fun q : Nat => s.heap.size ≤ q) b := Nat.not_le.mpr hbl
  refine lv_aload_n hx hb hd0 rfl (lv_at hlv 0 rfl) ?_
  refine lv_iload_n hx hb hd1 rfl (lv_at hlv 3 rfl) ?_
  refine lv_iconst hx hb hd2 hv ?_
  refine lv_iadd hx hb hd3 ?_
  exact va_sld hx hb hX hbl hbA hS hin hd4 (h H locs ls hlv hP hD hS)
theorem l_eq (F : lw_F Y) {r : Int32} {off : Int} {tgt : Nat} (hd : decode code pc = .ok (.if_icmp .eq off, 3)) (ht : (pc : Int) + off = (tgt : Int)) (h : lw_G Y tgt i st σx σm) : lw_G Y pc i (.int r :: .int r :: st) σx σm := by
  obtain ⟨p, l, e, s, m, below, meth, c, b, L, xs, D, cy, qx, qm, t⟩ := Y
  intro H locs ls hlv hP hD hS
  obtain ⟨hx, hb, hml, hown, hts, hK, hr, hlk, hro, hX, hbl⟩ := F
  exact lv_icmp_eq hx hb hd ht (fun _ => h H locs ls hlv hP hD hS) (fun hc => absurd rfl hc)
variable {vf' : (Nat → Nat) → Int32 → Option Value} {f : ow_S → Option (Int32 × ow_S)} {y : MethodName} {bytes : ByteArray} {maxL : Nat} {ret' : Option FieldType} {av : (Nat → Nat) → (Nat → Nat) → List Value} {Lc n idx : Nat} {r : Int32} {σ' : ow_S} {st0 rest As : List Value}
theorem l_room (hL : Lc ≤ 200) (hmL : maxL ≤ 45) : (ow_rm Lc).frames + 1 ≤ room_1.frames ∧ 8 + (maxL + 11) + (ow_rm Lc).locals ≤ room_1.locals := by
  simp only [ow_rm, room_1]
  omega
theorem l_callX (F : lw_F Y) (hM : ow_M layX true Lc y bytes maxL ret' av ow_vi f) (hY : ow_YV RX9 y n bytes maxL ret') (hlink : Cond.methodLink RL idx y ∈ ow_U) (hL : Lc ≤ 200) (hf : f σx = some (r, σ')) (hd : decode code pc = .ok (.invokevirtual idx, 3)) (hp : pc + 3 = pc') (hav : av (lw_qx Y) (lw_t Y) = .ref (lw_qx Y 0) :: As) (hn : As.length = n) (hst : st0 = As.reverse ++ .ref (lw_qx Y 0) :: rest) (hroom : (rest.map fun v => v.category).sum ≤ 8)
    (h : lw_G Y pc' i (.int r :: rest) σ' σm) : lw_G Y pc i st0 σx σm := by
  obtain ⟨p, l, e, s, m, below, meth, c, b, L, xs, D, cy, qx, qm, t⟩ := Y
  intro H locs ls hlv hP hD hS
  obtain ⟨hx, hb, hml, hown, hts, hK, hr, hlk, hro, hX, hbl⟩ := F
  subst hp
  subst hst
  have hPx := va_P_left hP
  have hDx := va_D_left hD
  have hA : ∀ a : Nat, s.heap.size ≤ a → (fun q : Nat => s.heap.size ≤ q) a := fun _ h => h
  have hsub : ∀ x, va_A (ow_w layX qx cy σx) H.size x → (fun q : Nat => s.heap.size ≤ q) x := by
    intro x h
    rcases h with ⟨k, y, h⟩ | h
    · exact hDx.2 k _ h
    · exact hA x (Nat.le_trans hS.1 h)
  have hM' := hM l D cy qx t H.size σx (r, σ') hf
  have hav' : av qx t = .ref (qx 0) :: As := hav
  rw [hav'] at hM'
  have hrun := va_runV (g := F0 m pc ls (As.reverse ++ .ref (qx 0) :: rest)) (locs := locs) (cells := 600000) (slots := 7302250) (R := room_1) (args := #[Value.ref b]) (H := H) (below := below) (meth := meth) (e := e) (As := As) (rest := rest) (b := qx 0) (C := RX9) ⟨hx, hb, hml, hown, hts⟩ hM' (cwV n hts (ow_gV hY hlink) rfl rfl rfl hY.1 (l_room hL hY.2.2.2.2.2)) ⟨ow_blind, va_recv (q := (RX9, TX9, 14)) hK hPx rfl (ow_at lyX_0), fun U hU hW => ⟨rfl, ow_preat hU hW hPx hDx hS hK hA (fun _ => hro)⟩⟩ rfl hn hlv.1 rfl (lv_room hroom) hd ⟨Nat.le_refl _, Nat.le_refl _⟩
  intro T2 hT XX
  obtain ⟨v, st₀, t2, T', Lc2, h0', X', hL', e1, e2, ⟨hv, hPc, hz, hk⟩, stp⟩ := hrun T2 hT XX
  cases hv
  rw [h0'] at hz hk
  have hkk : ∀ x : Nat, x < H.size → ¬ va_A (ow_w layX qx cy σx) H.size x → T'.heap[x]? = H[x]? := fun x g1 g2 => by rw [e1]; exact hk x g1 g2
  have hS2 : va_S (fun q : Nat => s.heap.size ≤ q) s.heap T'.heap (locs ++ Lc2) := ⟨Nat.le_trans hS.1 (by rw [e1]; exact hz), fun x g1 g2 => by rw [hkk x (Nat.lt_of_lt_of_le g1 hS.1) (fun z => g2 (hsub x z))]; exact hS.2.1 x g1 g2, fun x hx => by
      rcases List.mem_append.mp hx with h | h
      · exact hS.2.2 x h
      · exact hsub _ (hL' x h)⟩
  obtain ⟨hP2, hD2⟩ := va_join2 (va_P_swap hP) (va_D_swap hD) hkk hsub (show va_P D vwCl (ow_w layX qx cy σ') T'.heap by rw [e1]; exact hPc) (ow_D (hDx.self))
  obtain ⟨t3, a1, b1⟩ := h T'.heap (locs ++ Lc2) ls hlv (va_P_swap hP2) (va_D_swap hD2) hS2 T' rfl X'
  exact ⟨t3, stp t3 a1, b1⟩
theorem l_callM (F : lw_F Y) (hM : ow_M layM false Lc y bytes maxL ret' av ow_vi f) (hY : ow_YV RX10 y n bytes maxL ret') (hlink : Cond.methodLink RL idx y ∈ ow_U) (hL : Lc ≤ 200) (hf : f σm = some (r, σ')) (hd : decode code pc = .ok (.invokevirtual idx, 3)) (hp : pc + 3 = pc') (hav : av (lw_qm Y) (lw_t Y) = .ref (lw_qm Y 0) :: As) (hn : As.length = n) (hst : st0 = As.reverse ++ .ref (lw_qm Y 0) :: rest) (hroom : (rest.map fun v => v.category).sum ≤ 8)
    (h : lw_G Y pc' i (.int r :: rest) σx σ') : lw_G Y pc i st0 σx σm := by
  obtain ⟨p, l, e, s, m, below, meth, c, b, L, xs, D, cy, qx, qm, t⟩ := Y
  intro H locs ls hlv hP hD hS
  obtain ⟨hx, hb, hml, hown, hts, hK, hr, hlk, hro, hX, hbl⟩ := F
  subst hp
  subst hst
  have hPx := va_P_right hP
  have hDx := va_D_right hD
  have hA : ∀ a : Nat, s.heap.size ≤ a → (fun q : Nat => s.heap.size ≤ q) a := fun _ h => h
  have hsub : ∀ x, va_A (ow_w layM qm cy σm) H.size x → (fun q : Nat => s.heap.size ≤ q) x := by
    intro x h
    rcases h with ⟨k, y, h⟩ | h
    · exact hDx.2 k _ h
    · exact hA x (Nat.le_trans hS.1 h)
  have hM' := hM l D cy qm t H.size σm (r, σ') hf
  have hav' : av qm t = .ref (qm 0) :: As := hav
  rw [hav'] at hM'
  have hrun := va_runV (g := F0 m pc ls (As.reverse ++ .ref (qm 0) :: rest)) (locs := locs) (cells := 600000) (slots := 7302250) (R := room_1) (args := #[Value.ref b]) (H := H) (below := below) (meth := meth) (e := e) (As := As) (rest := rest) (b := qm 0) (C := RX10) ⟨hx, hb, hml, hown, hts⟩ hM' (cwV n hts (ow_gV hY hlink) rfl rfl rfl hY.1 (l_room hL hY.2.2.2.2.2)) ⟨ow_blind, va_recv (q := (RX10, TX10, 48)) hK hPx rfl (ow_at lyM_0), fun U hU hW => ⟨rfl, ow_preat hU hW hPx hDx hS hK hA (fun h => by cases h)⟩⟩ rfl hn hlv.1 rfl (lv_room hroom) hd ⟨Nat.le_refl _, Nat.le_refl _⟩
  intro T2 hT XX
  obtain ⟨v, st₀, t2, T', Lc2, h0', X', hL', e1, e2, ⟨hv, hPc, hz, hk⟩, stp⟩ := hrun T2 hT XX
  cases hv
  rw [h0'] at hz hk
  have hkk : ∀ x : Nat, x < H.size → ¬ va_A (ow_w layM qm cy σm) H.size x → T'.heap[x]? = H[x]? := fun x g1 g2 => by rw [e1]; exact hk x g1 g2
  have hS2 : va_S (fun q : Nat => s.heap.size ≤ q) s.heap T'.heap (locs ++ Lc2) := ⟨Nat.le_trans hS.1 (by rw [e1]; exact hz), fun x g1 g2 => by rw [hkk x (Nat.lt_of_lt_of_le g1 hS.1) (fun z => g2 (hsub x z))]; exact hS.2.1 x g1 g2, fun x hx => by
      rcases List.mem_append.mp hx with h | h
      · exact hS.2.2 x h
      · exact hsub _ (hL' x h)⟩
  obtain ⟨hP2, hD2⟩ := va_join2 hP hD hkk hsub (show va_P D vwCl (ow_w layM qm cy σ') T'.heap by rw [e1]; exact hPc) (ow_D (hDx.self))
  obtain ⟨t3, a1, b1⟩ := h T'.heap (locs ++ Lc2) ls hlv hP2 hD2 hS2 T' rfl X'
  exact ⟨t3, stp t3 a1, b1⟩
theorem l_tab1 (F : lw_F Y) {dflt lo hi : Int} {offs : Array Int} {len : Nat} {x : Int32} {k : Int32} {off : Int} {tgt : Nat} (hd : decode code pc = .ok (.tableswitch dflt lo hi offs, len)) (k1 : ¬ k.toInt < lo) (k2 : ¬ hi < k.toInt) (hoff : offs[(k.toInt - lo).toNat]? = some off) (ht : (pc : Int) + off = (tgt : Int)) (h1 : lw_G Y tgt i st σx σm) (h2 : x ≠ k → lw_G Y pc i (.int x :: st) σx σm) : lw_G Y pc i (.int x :: st) σx σm := by
  by_cases hk : x = k
  · subst hk
    obtain ⟨p, l, e, s, m, below, meth, c, b, L, xs, D, cy, qx, qm, t⟩ := Y
    intro H locs ls hlv hP hD hS
    obtain ⟨hx, hb, hml, hown, hts, hK, hr, hlk, hro, hX, hbl⟩ := F
    exact lv_tableIn hx hb hd k1 k2 hoff ht (h1 H locs ls hlv hP hD hS)
  · exact h2 hk
theorem l_tabd (F : lw_F Y) {dflt lo hi : Int} {offs : Array Int} {len : Nat} {x : Int32} {tgt : Nat} (hd : decode code pc = .ok (.tableswitch dflt lo hi offs, len)) (hx0 : x.toInt < lo ∨ hi < x.toInt) (ht : (pc : Int) + dflt = (tgt : Int)) (h : lw_G Y tgt i st σx σm) : lw_G Y pc i (.int x :: st) σx σm := by
  obtain ⟨p, l, e, s, m, below, meth, c, b, L, xs, D, cy, qx, qm, t⟩ := Y
  intro H locs ls hlv hP hD hS
  obtain ⟨hx, hb, hml, hown, hts, hK, hr, hlk, hro, hX, hbl⟩ := F
  exact lv_tableOut hx hb hd hx0 ht (h H locs ls hlv hP hD hS)
end LWR
