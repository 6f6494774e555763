theorem kl_classLink_7 : Cond.classLink RL 7 RX9 ∈ ow_U := ow_U1 (List.mem_of_getElem? (i := 20) (by first | rfl | decide +kernel)) (by first | rfl | decide +kernel)
theorem kl_classLink_10 : Cond.classLink RL 10 RX10 ∈ ow_U := ow_U5 (List.mem_of_getElem? (i := 24) (by first | rfl | decide +kernel)) (by first | rfl | decide +kernel)
theorem kl_instantiable_OwnHurt : Cond.instantiable RX9 14 ∈ ow_U := ow_U1 (List.mem_of_getElem? (i := 21) (by first | rfl | decide +kernel)) (by first | rfl | decide +kernel)
theorem kl_instantiable_OwnHurtModel : Cond.instantiable RX10 48 ∈ ow_U := ow_U5 (List.mem_of_getElem? (i := 25) (by first | rfl | decide +kernel)) (by first | rfl | decide +kernel)
theorem kl_initialized_OwnHurt : Cond.initialized RX9 ∈ ow_U := ow_U1 (List.mem_of_getElem? (i := 1) (by first | rfl | decide +kernel)) (by first | rfl | decide +kernel)
theorem kl_initialized_OwnHurtModel : Cond.initialized RX10 ∈ ow_U := ow_U1 (List.mem_of_getElem? (i := 11) (by first | rfl | decide +kernel)) (by first | rfl | decide +kernel)
theorem kl_methodLink_9 : Cond.methodLink RL 9 yX9_init ∈ ow_U := ow_U1 (List.mem_of_getElem? (i := 22) (by first | rfl | decide +kernel)) (by first | rfl | decide +kernel)
theorem kl_methodLink_12 : Cond.methodLink RL 12 yX10_init ∈ ow_U := ow_U5 (List.mem_of_getElem? (i := 26) (by first | rfl | decide +kernel)) (by first | rfl | decide +kernel)
/-- a constructor is called from the law, on the cell made last -/
theorem lw_ctor {p : Program} {l : Launch} {e : Env} {s : State} {m : MethodId} {below : List Frame} {meth : Method} {c : Code} {b : Nat} {D : va_G} {cy : Nat → ClassId} {t : Nat → Nat} {H : Heap} {locs : List Loc} {cells slots cells2 slots2 : Nat} {Q : State → Prop} {lay : List ow_C} {σf : ow_S} {bb : Bool} {Lc mc' ms' cj idx pc a : Nat} {y : MethodName} {bytes : ByteArray} {fj : List Value} {ws : va_W} {ls : Array Slot} {st : List Value}
    (hx : p.tables.exec = Jvm.exec) (hb : c.code = code) (hml : c.maxLocals = 4) (hown : s.vm.findClass RL = some m.cls) (hts : ∀ w ∈ ow_U, w.before #[Value.ref b] s = true) (hK : va_K D vwCl (ow_ty cy) s) (hro : ow_RO t (fun q : Nat => s.heap.size ≤ q) s s.heap) (hNN : oc_NN s)
    (hM : oc_M lay σf bb Lc mc' ms' y bytes cj fj) (hY : ow_YI y bytes) (hlink : Cond.methodLink RL idx y ∈ ow_U) (hL : Lc ≤ 200) (hd : decode code pc = .ok (.invokespecial idx, 3)) (hc1 : cells + mc' = cells2) (hc2 : slots + ms' = slots2) (hcells : cells2 ≤ 600000) (hslots : slots2 ≤ 7302250) (hroom : (st.map fun v => v.category).sum ≤ 8) (hls : ls.size = 4)
    (hP : va_P D vwCl (ws ++ [(a, .inr (cj, fj))]) H) (hD : va_D (fun q : Nat => s.heap.size ≤ q) (ws ++ [(a, .inr (cj, fj))])) (hS : va_S (fun q : Nat => s.heap.size ≤ q) s.heap H locs)
    (h : ∀ (q : Nat → Nat) (H1 : Heap) (locs1 : List Loc), q 0 = a → va_P D vwCl (ws ++ ow_w lay q cy σf) H1 → va_D (fun q : Nat => s.heap.size ≤ q) (ws ++ ow_w lay q cy σf) → va_S (fun q : Nat => s.heap.size ≤ q) s.heap H1 locs1 → W p l e room_1 s m #[Value.ref b] below meth c H1 locs1 cells2 slots2 Q (F0 m (pc + 3) ls st)) :
    W p l e room_1 s m #[Value.ref b] below meth c H locs cells slots Q (F0 m pc ls (.ref a :: st)) := by
  obtain ⟨⟨hy1, hy2⟩, h1, h2, h3⟩ := hY
  subst hc1; subst hc2
  have hA : ∀ a : Nat, s.heap.size ≤ a → (fun q : Nat => s.heap.size ≤ q) a := fun _ h => h
  have hsub : ∀ x, va_A [(a, .inr (cj, fj))] H.size x → (fun q : Nat => s.heap.size ≤ q) x := by
    intro x h
    rcases h with ⟨k, y, h⟩ | h
    · exact (va_D_right hD).2 k _ h
    · exact hA x (Nat.le_trans hS.1 h)
  have hG : GoodIn ow_U (Cond.code y bytes 1 none :: ow_U) := ow_gd (fun w hw => (List.mem_cons.mp hw).elim (fun e => by rw [e]; exact h3) id)
  have hrm : (oc_rm Lc mc' ms').frames + 1 ≤ room_1.frames ∧ 8 + (1 + 11) + (oc_rm Lc mc' ms').locals ≤ room_1.locals := by
    simp only [oc_rm, room_1]
    omega
  have cw : CallB room_1 s #[Value.ref b] RL idx y bytes 1 none (Cond.code y bytes 1 none :: ow_U) (oc_rm Lc mc' ms') mc' ms' 0 ∧ y.name = "<init>" ∧ (Cond.instanceMethod y).before #[Value.ref b] s = true := cwI 0 hts hG rfl rfl rfl (hts _ h2) (hts _ hlink) (hts _ h1) hy1 hy2 hrm
  have hrun := va_runI (g := F0 m pc ls (.ref a :: st)) (locs := locs) (cells := cells) (slots := slots) (H := H) (below := below) (meth := meth) (e := e) (As := []) (rest := st) (b := a) ⟨hx, hb, hml, hown, hts⟩ (hM l D cy a H.size t) cw ⟨oc_blind, fun U hU hW => ⟨rfl, by rw [hU], by rw [hU]; exact va_P_right hP, va_K.moved hW.alike hK, (va_D_right hD).weaken (fun _ _ _ _ => trivial), (fun _ => by rw [hU]; exact ((hro.kept hS.2.1).warm hW).narrow hsub), hNN.warm hW⟩⟩ rfl rfl hls rfl (lv_room hroom) hd ⟨hcells, hslots⟩
  intro T hT XX
  obtain ⟨v, st₀, t2, T', Lc2, h0', X', hL', e1, e2, ⟨hv, ⟨q, hq0, hPc, hDc⟩, hz, hk⟩, stp⟩ := hrun T hT XX
  cases hv
  rw [h0'] at hz hk
  have hkk : ∀ x : Nat, x < H.size → ¬ va_A [(a, .inr (cj, fj))] H.size x → T'.heap[x]? = H[x]? := fun x g1 g2 => by rw [e1]; exact hk x g1 g2
  obtain ⟨hP2, hD2⟩ := va_join2 hP hD hkk hsub (show va_P D vwCl (ow_w lay q cy σf) T'.heap by rw [e1]; exact hPc) hDc
  have hS2 : va_S (fun q : Nat => s.heap.size ≤ q) s.heap T'.heap (locs ++ Lc2) := ⟨Nat.le_trans hS.1 (by rw [e1]; exact hz), fun x g1 g2 => by rw [hkk x (Nat.lt_of_lt_of_le g1 hS.1) (fun z => g2 (hsub x z))]; exact hS.2.1 x g1 g2, fun x hx => by
      rcases List.mem_append.mp hx with h | h
      · exact hS.2.2 x h
      · exact hsub _ (hL' x h)⟩
  obtain ⟨t3, a1, b1⟩ := h q T'.heap (locs ++ Lc2) hq0 hP2 hD2 hS2 T' rfl X'
  exact ⟨t3, stp t3 a1, b1⟩
theorem lw_arr {ty : FieldType} {args : Array Value} {s : State} (hn : match ty with | .object _ => False | _ => True) (h : (Cond.arrayClass ty).before args s = true) : ∃ cA : ClassId, ArrOfT s cA ty ∧ va_RA s cA ty := by
  obtain ⟨cA, kA, comp, h1, h2, h3⟩ := Cond.arrayClass_spec h
  refine ⟨cA, fun n z => ⟨fun k h => (by cases h), kA, h2, comp, h3⟩, ?_⟩
  cases ty <;> first | exact h1 | exact hn.elim
set_option maxRecDepth 100000 in
theorem lw_NN {args : Array Value} {s : State} (hts0 : ∀ w ∈ lw_tbl, w.before args s = true) : oc_NN s := by
  have h0 : ∀ z ∈ oc_nl, Cond.methodLinkNest z.1 z.2.1 z.2.2.1 z.2.2.2 ∈ lw_tbl := by decide +kernel
  intro z hz
  exact va_Nw.of rfl (hts0 _ (h0 z hz))
set_option maxHeartbeats 4000000 in
set_option maxRecDepth 100000 in
theorem lw_KK {b : Nat} {s : State} (hts : ∀ w ∈ ow_U, w.before #[Value.ref b] s = true) : ∃ (dC : Nat → ClassId) (dI : Nat → Nat → Nat), ∀ (k : Nat) (q : vw_C), vwCl[k]? = some q → u_Kn s q.1 q.2.1 q.2.2 (dC k) (dI k) := by
  have hKn : ∀ k, k < 11 → ∃ (cC : ClassId) (iS : Nat → Nat), ∀ q : vw_C, vwCl[k]? = some q → u_Kn s q.1 q.2.1 q.2.2 cC iS := by
    intro k hk
    rcases (show k = 0 ∨ k = 1 ∨ k = 2 ∨ k = 3 ∨ k = 4 ∨ k = 5 ∨ k = 6 ∨ k = 7 ∨ k = 8 ∨ k = 9 ∨ k = 10 by omega) with rfl | rfl | rfl | rfl | rfl | rfl | rfl | rfl | rfl | rfl | rfl
    · obtain ⟨c0, i0, h0⟩ := u_known (C := RX0) (T := TX0) (N := 4) hts kc_X0.2.1 (hts _ kw_instantiable_OwnHurt_Book)
      exact ⟨c0, i0, fun q hq => by cases hq; exact h0⟩
    · obtain ⟨c0, i0, h0⟩ := u_known (C := RX1) (T := TX1) (N := 7) hts kc_X1.2.1 (hts _ kw_instantiable_OwnHurt_Law)
      exact ⟨c0, i0, fun q hq => by cases hq; exact h0⟩
    · obtain ⟨c0, i0, h0⟩ := u_known (C := RX2) (T := TX2) (N := 4) hts kc_X2.2.1 (hts _ kw_instantiable_OwnHurt_Machine)
      exact ⟨c0, i0, fun q hq => by cases hq; exact h0⟩
    · obtain ⟨c0, i0, h0⟩ := u_known (C := RX3) (T := TX3) (N := 5) hts kc_X3.2.1 (hts _ kw_instantiable_OwnHurt_People)
      exact ⟨c0, i0, fun q hq => by cases hq; exact h0⟩
    · obtain ⟨c0, i0, h0⟩ := u_known (C := RX4) (T := TX4) (N := 4) hts kc_X4.2.1 (hts _ kw_instantiable_OwnHurt_Plan)
      exact ⟨c0, i0, fun q hq => by cases hq; exact h0⟩
    · obtain ⟨c0, i0, h0⟩ := u_known (C := RX5) (T := TX5) (N := 1) hts kc_X5.2.1 (hts _ kw_instantiable_OwnHurt_Proofs)
      exact ⟨c0, i0, fun q hq => by cases hq; exact h0⟩
    · obtain ⟨c0, i0, h0⟩ := u_known (C := RX6) (T := TX6) (N := 5) hts kc_X6.2.1 (hts _ kw_instantiable_OwnHurt_Reader)
      exact ⟨c0, i0, fun q hq => by cases hq; exact h0⟩
    · obtain ⟨c0, i0, h0⟩ := u_known (C := RX7) (T := TX7) (N := 2) hts kc_X7.2.1 (hts _ kw_instantiable_OwnHurt_Tape)
      exact ⟨c0, i0, fun q hq => by cases hq; exact h0⟩
    · obtain ⟨c0, i0, h0⟩ := u_known (C := RX8) (T := TX8) (N := 1) hts kc_X8.2.1 (hts _ kw_instantiable_OwnHurt_Worlds)
      exact ⟨c0, i0, fun q hq => by cases hq; exact h0⟩
    · obtain ⟨c0, i0, h0⟩ := u_known (C := RX9) (T := TX9) (N := 14) hts kc_X9.2.1 (hts _ kl_instantiable_OwnHurt)
      exact ⟨c0, i0, fun q hq => by cases hq; exact h0⟩
    · obtain ⟨c0, i0, h0⟩ := u_known (C := RX10) (T := TX10) (N := 48) hts kc_X10.2.1 (hts _ kl_instantiable_OwnHurtModel)
      exact ⟨c0, i0, fun q hq => by cases hq; exact h0⟩
  have h : ∀ k : Nat, ∃ z : ClassId × (Nat → Nat), ∀ q : vw_C, vwCl[k]? = some q → u_Kn s q.1 q.2.1 q.2.2 z.1 z.2 := by
    intro k
    by_cases hk : k < 11
    · obtain ⟨cC, iS, h⟩ := hKn k hk
      exact ⟨(cC, iS), h⟩
    · exact ⟨(0, fun _ => 0), fun q hq => absurd (List.getElem?_eq_some_iff.mp hq).1 hk⟩
  exact ⟨fun k => (Classical.choose (h k)).1, fun k => (Classical.choose (h k)).2, fun k => Classical.choose_spec (h k)⟩
set_option maxHeartbeats 4000000 in
theorem lw_KA {b : Nat} {s : State} (hts : ∀ w ∈ ow_U, w.before #[Value.ref b] s = true) {dC : Nat → ClassId} {dI : Nat → Nat → Nat} (hKc : ∀ (k : Nat) (q : vw_C), vwCl[k]? = some q → u_Kn s q.1 q.2.1 q.2.2 (dC k) (dI k)) : ∃ cy : Nat → ClassId, va_K (dC, dI) vwCl (ow_ty cy) s := by
  obtain ⟨c0, ha0⟩ := lw_arr (ty := .int) trivial (hts _ kw_arrayClass__int)
  obtain ⟨c1, ha1⟩ := lw_arr (ty := .byte) trivial (hts _ kw_arrayClass__byte)
  obtain ⟨c2, ha2⟩ := lw_arr (ty := .boolean) trivial (hts _ kw_arrayClass__boolean)
  obtain ⟨c3, ha3⟩ := lw_arr (ty := .long) trivial (hts _ kw_arrayClass__long)
  obtain ⟨cy, hcy⟩ : ∃ cy : Nat → ClassId, cy = fun k => List.getD [c0, c1, c2, c3] k 0 := ⟨_, rfl⟩
  refine ⟨cy, ?_⟩
  · refine ⟨hKc, fun k q hk => ?_⟩
    subst hcy
    match k, hk with
    | 0, hk => cases hk; exact ha0
    | 1, hk => cases hk; exact ha1
    | 2, hk => cases hk; exact ha2
    | 3, hk => cases hk; exact ha3
    | k + 4, hk => simp [ow_ty] at hk
