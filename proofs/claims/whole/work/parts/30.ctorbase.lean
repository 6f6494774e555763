/-! constructors: an object under construction, its cell first, then what it has made -/
/-- the private constructors' links, by the nest -/
def oc_nl : List (String × Nat × MethodName × String) := [(RX9, 9, yX7_init, "OwnHurt"), (RX9, 18, yX3_init, "OwnHurt"), (RX9, 25, yX0_init, "OwnHurt"), (RX9, 32, yX2_init, "OwnHurt"), (RX9, 39, yX6_init, "OwnHurt"), (RX6, 17, yX1_init, "OwnHurt"), (RX9, 46, yX5_init, "OwnHurt"), (RX5, 11, yX8_init, "OwnHurt"), (RX9, 53, yX4_init, "OwnHurt"), (RX9, 60, yX8_init, "OwnHurt"), (RX9, 73, yX1_init, "OwnHurt")]
def oc_NN (U : State) : Prop := ∀ z ∈ oc_nl, va_Nw (.methodLinkNest z.1 z.2.1 z.2.2.1 z.2.2.2) U
theorem oc_NN.warm {s U : State} (hW : s.WarmedH U.vm) (h : oc_NN s) : oc_NN U := fun z hz => va_Nw.warmM hW (h z hz)
theorem oc_NN.calling {U : State} (g : JFrame) (mk : MethodId) (a : Array Value) (h : oc_NN U) : oc_NN (U.calling g mk a) := fun z hz => va_Nw.same rfl rfl (h z hz)
def ow_z : ow_S := (fun _ _ => 0, fun _ _ => 0)
/-- the world once more, cell by cell -/
def ow_fgo (q : Nat → Nat) (g : Nat → Int32) : Nat → List (Option Nat) → List Value
  | _, [] => []
  | k, f :: fs => ow_fv q g k f :: ow_fgo q g (k + 1) fs
theorem ow_fgo_at (q : Nat → Nat) (g : Nat → Int32) : ∀ (fs : List (Option Nat)) (k i : Nat), (ow_fgo q g k fs)[i]? = (fs[i]?).map (fun f => ow_fv q g (k + i) f)
  | [], k, i => by simp [ow_fgo]
  | f :: fs, k, i => by
    cases i with
    | zero => simp [ow_fgo]
    | succ i =>
      simp only [ow_fgo, List.getElem?_cons_succ]
      rw [ow_fgo_at q g fs (k + 1) i, show k + 1 + i = k + (i + 1) by omega]
theorem ow_fgo_eq (q : Nat → Nat) (g : Nat → Int32) (fs : List (Option Nat)) : fs.mapIdx (ow_fv q g) = ow_fgo q g 0 fs := by
  apply List.ext_getElem?
  intro i
  rw [ow_fgo_at, List.getElem?_mapIdx, Nat.zero_add]
def ow_cgo (q : Nat → Nat) (cy : Nat → ClassId) (σ : ow_S) (j : Nat) (d : ow_C) : va_E := match d with
  | .inl (0, n) => .inl (cy 0, n, .inl (σ.1 j))
  | .inl (1, n) => .inl (cy 1, n, .inl (σ.1 j))
  | .inl (2, n) => .inl (cy 2, n, .inl (σ.1 j))
  | .inl (_, n) => .inl (cy 3, n, .inr (.inl (σ.2 j)))
  | .inr (ci, fs) => .inr (ci, ow_fgo q (σ.1 j) 0 fs)
theorem ow_cgo_eq (q : Nat → Nat) (cy : Nat → ClassId) (σ : ow_S) (j : Nat) (d : ow_C) : ow_cell q cy σ j d = ow_cgo q cy σ j d := by
  unfold ow_cell ow_cgo
  split <;> first | rfl | simp [ow_fgo_eq]
def ow_wgo (q : Nat → Nat) (cy : Nat → ClassId) (σ : ow_S) : Nat → List ow_C → va_W
  | _, [] => []
  | j, d :: ds => (q j, ow_cgo q cy σ j d) :: ow_wgo q cy σ (j + 1) ds
theorem ow_wgo_at (q : Nat → Nat) (cy : Nat → ClassId) (σ : ow_S) : ∀ (ds : List ow_C) (j i : Nat), (ow_wgo q cy σ j ds)[i]? = (ds[i]?).map (fun d => (q (j + i), ow_cgo q cy σ (j + i) d))
  | [], j, i => by simp [ow_wgo]
  | d :: ds, j, i => by
    cases i with
    | zero => simp [ow_wgo]
    | succ i =>
      simp only [ow_wgo, List.getElem?_cons_succ]
      rw [ow_wgo_at q cy σ ds (j + 1) i, show j + 1 + i = j + (i + 1) by omega]
theorem ow_wgo_eq {lay : List ow_C} {q : Nat → Nat} {cy : Nat → ClassId} {σ : ow_S} : ow_w lay q cy σ = ow_wgo q cy σ 0 lay := by
  apply List.ext_getElem?
  intro i
  rw [ow_wgo_at, ow_at']
  simp only [Nat.zero_add, ow_cgo_eq]
def oc_rm (L mc ms : Nat) : Room := { frames := L, cells := mc, slots := ms, locals := 64 * L }
def oc_F (X : ow_X) (own : String) (cc : ByteArray) (L mc ms : Nat) (b : Bool) : Prop := match X with
  | (p, _, _, R, s, m, args, _, meth, c, D, cy, A, _, t) => p.tables.exec = Jvm.exec ∧ c.code = cc ∧ c.maxLocals = 1 ∧ s.vm.findClass own = some m.cls ∧ (∀ w ∈ ow_U, w.before args s = true) ∧ va_K D vwCl (ow_ty cy) s ∧ meth.sig.returnType = none ∧ meth.locks = false ∧ (∀ a : Nat, s.heap.size ≤ a → A a) ∧ R = oc_rm L mc ms ∧ meth.name = "<init>" ∧ (b = true → ow_RO t A s s.heap) ∧ oc_NN s
def oc_Q (lay : List ow_C) (σf : ow_S) (D : va_G) (cy : Nat → ClassId) (A : Nat → Prop) (h0 : Nat) : Array Value → State → Outcome → State → Prop :=
  fun _ st oc t => oc = .returned none ∧ (∃ q : Nat → Nat, q 0 = h0 ∧ va_P D vwCl (ow_w lay q cy σf) t.heap ∧ va_D A (ow_w lay q cy σf)) ∧ va_F A st t
def oc_pre (b : Bool) (t : Nat → Nat) (cy : Nat → ClassId) (D : va_G) (w : va_W) (sz : Nat) (U : State) : Prop :=
  U.heap.size = sz ∧ va_P D vwCl w U.heap ∧ va_K D vwCl (ow_ty cy) U ∧ va_D (fun _ => True) w ∧ (b = true → ow_RO t (va_A w sz) U U.heap) ∧ oc_NN U
def oc_M (lay : List ow_C) (σf : ow_S) (b : Bool) (L mc ms : Nat) (y : MethodName) (cc : ByteArray) (ci : Nat) (fs0 : List Value) : Prop :=
  ∀ (l : Launch) (D : va_G) (cy : Nat → ClassId) (h0 sz : Nat) (t : Nat → Nat),
    Met l y (Cond.code y cc 1 none :: ow_U) (oc_rm L mc ms) (va_Pc [.ref h0] (oc_pre b t cy D [(h0, .inr (ci, fs0))] sz)) (oc_Q lay σf D cy (va_A [(h0, .inr (ci, fs0))] sz) h0) mc ms (va_A [(h0, .inr (ci, fs0))] sz)
def oc_W (X : ow_X) (lay : List ow_C) (σf : ow_S) (mc ms : Nat) (ci h0 : Nat) (pc : Nat) (st : List Value) (fs : List Value) (ws : va_W) (cells slots : Nat) : Prop := match X with
  | (p, l, e, R, s, m, args, below, meth, c, D, cy, A, _, _) => ∀ (H : Heap) (locs : List Loc) (ls : Array Slot), lv_has ls 1 [(0, .ref h0)] → va_P D vwCl ((h0, .inr (ci, fs)) :: ws) H → va_D A ((h0, .inr (ci, fs)) :: ws) → va_S A s.heap H locs →
    W p l e R s m args below meth c H locs cells slots (MQ below (oc_Q lay σf D cy A h0) args s mc ms A) (F0 m pc ls st)
def ow_cy (X : ow_X) : Nat → ClassId := X.2.2.2.2.2.2.2.2.2.2.2.1
section OCR
variable {X : ow_X} {lay : List ow_C} {σf : ow_S} {mc ms ci h0 pc pc' : Nat} {st fs fs' : List Value} {ws : va_W} {cells slots : Nat} {own : String} {cc : ByteArray} {L : Nat} {b : Bool}
theorem c_a0 (F : oc_F X own cc L mc ms b) (hd : decode cc pc = .ok (.aload_n 0, 1)) (hp : pc + 1 = pc') (h : oc_W X lay σf mc ms ci h0 pc' (.ref h0 :: st) fs ws cells slots) : oc_W X lay σf mc ms ci h0 pc st fs ws cells slots := by
  obtain ⟨p, l, e, R, s, m, args, below, meth, c, D, cy, A, q, t⟩ := X
  intro H locs ls hlv hP hD hS
  obtain ⟨hx, hb, hml, hown, hts, hK, hr, hlk, hA, hR, hin, hro, hNN⟩ := F
  subst hp
  exact lv_aload_n hx hb hd rfl (lv_at hlv 0 rfl) (h H locs ls hlv hP hD hS)
theorem c_iconst (F : oc_F X own cc L mc ms b) {n : Int} {v : Int32} (hd : decode cc pc = .ok (.iconst n, 1)) (hp : pc + 1 = pc') (hv : Int32.ofInt n = v) (h : oc_W X lay σf mc ms ci h0 pc' (.int v :: st) fs ws cells slots) : oc_W X lay σf mc ms ci h0 pc st fs ws cells slots := by
  obtain ⟨p, l, e, R, s, m, args, below, meth, c, D, cy, A, q, t⟩ := X
  intro H locs ls hlv hP hD hS
  obtain ⟨hx, hb, hml, hown, hts, hK, hr, hlk, hA, hR, hin, hro, hNN⟩ := F
  subst hp
  exact lv_iconst hx hb hd hv (h H locs ls hlv hP hD hS)
theorem c_bipush (F : oc_F X own cc L mc ms b) {n : Int} {v : Int32} (hd : decode cc pc = .ok (.bipush n, 2)) (hp : pc + 2 = pc') (hv : (Int8.ofInt n).toInt32 = v) (h : oc_W X lay σf mc ms ci h0 pc' (.int v :: st) fs ws cells slots) : oc_W X lay σf mc ms ci h0 pc st fs ws cells slots := by
  obtain ⟨p, l, e, R, s, m, args, below, meth, c, D, cy, A, q, t⟩ := X
  intro H locs ls hlv hP hD hS
  obtain ⟨hx, hb, hml, hown, hts, hK, hr, hlk, hA, hR, hin, hro, hNN⟩ := F
  subst hp
  exact lv_bipush hx hb hd hv (h H locs ls hlv hP hD hS)
theorem c_sipush (F : oc_F X own cc L mc ms b) {n : Int} {v : Int32} (hd : decode cc pc = .ok (.sipush n, 3)) (hp : pc + 3 = pc') (hv : (Int16.ofInt n).toInt32 = v) (h : oc_W X lay σf mc ms ci h0 pc' (.int v :: st) fs ws cells slots) : oc_W X lay σf mc ms ci h0 pc st fs ws cells slots := by
  obtain ⟨p, l, e, R, s, m, args, below, meth, c, D, cy, A, q, t⟩ := X
  intro H locs ls hlv hP hD hS
  obtain ⟨hx, hb, hml, hown, hts, hK, hr, hlk, hA, hR, hin, hro, hNN⟩ := F
  subst hp
  exact lv_sipush hx hb hd hv (h H locs ls hlv hP hD hS)
theorem c_ldc (F : oc_F X own cc L mc ms b) {n : Nat} {v : Int32} (hd : decode cc pc = .ok (.ldc n, 2)) (hp : pc + 2 = pc') (hc : Cond.constant own n v ∈ ow_U) (h : oc_W X lay σf mc ms ci h0 pc' (.int v :: st) fs ws cells slots) : oc_W X lay σf mc ms ci h0 pc st fs ws cells slots := by
  obtain ⟨p, l, e, R, s, m, args, below, meth, c, D, cy, A, q, t⟩ := X
  intro H locs ls hlv hP hD hS
  obtain ⟨hx, hb, hml, hown, hts, hK, hr, hlk, hA, hR, hin, hro, hNN⟩ := F
  subst hp
  exact lv_ldc hx hb hown (hts _ hc) hd (h H locs ls hlv hP hD hS)
theorem c_dup (F : oc_F X own cc L mc ms b) {a : Nat} (hd : decode cc pc = .ok (.dup, 1)) (hp : pc + 1 = pc') (h : oc_W X lay σf mc ms ci h0 pc' (.ref a :: .ref a :: st) fs ws cells slots) : oc_W X lay σf mc ms ci h0 pc (.ref a :: st) fs ws cells slots := by
  obtain ⟨p, l, e, R, s, m, args, below, meth, c, D, cy, A, q, t⟩ := X
  intro H locs ls hlv hP hD hS
  obtain ⟨hx, hb, hml, hown, hts, hK, hr, hlk, hA, hR, hin, hro, hNN⟩ := F
  subst hp
  exact lv_dup hx hb hd rfl (h H locs ls hlv hP hD hS)
theorem c_obj (F : oc_F X own cc L mc ms b) {idx : Nat} (hd : decode cc pc = .ok (.invokespecial idx, 3)) (hp : pc + 3 = pc') (h1 : Cond.methodLink own idx Lib.objectInit ∈ ow_U) (h2 : Cond.instanceMethod Lib.objectInit ∈ ow_U) (h3 : Cond.code Lib.objectInit ⟨#[0xb1]⟩ 1 none ∈ ow_U) (hL : 0 < L) (h : oc_W X lay σf mc ms ci h0 pc' [] fs ws cells slots) : oc_W X lay σf mc ms ci h0 pc [.ref h0] fs ws cells slots := by
  obtain ⟨p, l, e, R, s, m, args, below, meth, c, D, cy, A, q, t⟩ := X
  intro H locs ls hlv hP hD hS
  obtain ⟨hx, hb, hml, hown, hts, hK, hr, hlk, hA, hR, hin, hro, hNN⟩ := F
  subst hp; subst hR
  refine W.objInit hx hb hown (hts _ h1) (hts _ h2) (hts _ h3) rfl (by rw [hml]; exact hlv.1) rfl hd hL ?_ ?_
  · show 2 * 0 + 0 + 12 ≤ 64 * L
    omega
  · exact W.eq (g2 := F0 m (pc + 3) ls []) rfl (h H locs ls hlv hP hD hS)
theorem c_newI (F : oc_F X own cc L mc ms b) {n : Int32} {N : Nat} (hd : decode cc pc = .ok (.newarray .int, 2)) (hp : pc + 2 = pc') (hc : Cond.arrayClass .int ∈ ow_U) (hn : ¬ n < 0) (hN : n.toNatClampNeg = N) (hbytes : N * componentBytes .int ≤ 536870912) (hcells : cells + 1 ≤ mc) (hslots : slots + N ≤ ms) {cells' slots' : Nat} (ec : cells + 1 = cells') (es : slots + N = slots') {ws' : Nat → va_W} (hw : ∀ a : Nat, ws ++ [(a, .inl (ow_cy X 0, N, .inl (fun _ => 0)))] = ws' a) (h : ∀ a : Nat, oc_W X lay σf mc ms ci h0 pc' (.ref a :: st) fs (ws' a) cells' slots') : oc_W X lay σf mc ms ci h0 pc (.int n :: st) fs ws cells slots := by
  obtain ⟨p, l, e, R, s, m, args, below, meth, c, D, cy, A, q, t⟩ := X
  intro H locs ls hlv hP hD hS
  obtain ⟨hx, hb, hml, hown, hts, hK, hr, hlk, hA, hR, hin, hro, hNN⟩ := F
  subst hp; subst hR; subst ec; subst es
  refine va_newa (atype := .int) (ty := .int) (a0 := (N, .inl (fun _ => 0))) hx hb (hts _ hc) rfl hK hP hD hS hA (fun _ => rfl) hn hN hbytes hcells hslots hd (fun a cA H1 hK1 hP1 hD1 hS1 => ?_)
  have e1 : cA = cy 0 := by
    have h1 := (hK1.2 4 (cA, .int) rfl).2
    have h2 := (hK.2 0 (cy 0, .int) rfl).2
    exact Option.some.inj (h1.symm.trans h2)
  subst e1
  have h := h a
  rw [← hw a] at h
  exact h H1 locs ls hlv hP1 hD1 hS1
theorem c_newB (F : oc_F X own cc L mc ms b) {n : Int32} {N : Nat} (hd : decode cc pc = .ok (.newarray .byte, 2)) (hp : pc + 2 = pc') (hc : Cond.arrayClass .byte ∈ ow_U) (hn : ¬ n < 0) (hN : n.toNatClampNeg = N) (hbytes : N * componentBytes .byte ≤ 536870912) (hcells : cells + 1 ≤ mc) (hslots : slots + N ≤ ms) {cells' slots' : Nat} (ec : cells + 1 = cells') (es : slots + N = slots') {ws' : Nat → va_W} (hw : ∀ a : Nat, ws ++ [(a, .inl (ow_cy X 1, N, .inl (fun _ => 0)))] = ws' a) (h : ∀ a : Nat, oc_W X lay σf mc ms ci h0 pc' (.ref a :: st) fs (ws' a) cells' slots') : oc_W X lay σf mc ms ci h0 pc (.int n :: st) fs ws cells slots := by
  obtain ⟨p, l, e, R, s, m, args, below, meth, c, D, cy, A, q, t⟩ := X
  intro H locs ls hlv hP hD hS
  obtain ⟨hx, hb, hml, hown, hts, hK, hr, hlk, hA, hR, hin, hro, hNN⟩ := F
  subst hp; subst hR; subst ec; subst es
  refine va_newa (atype := .byte) (ty := .byte) (a0 := (N, .inl (fun _ => 0))) hx hb (hts _ hc) rfl hK hP hD hS hA (fun _ => rfl) hn hN hbytes hcells hslots hd (fun a cA H1 hK1 hP1 hD1 hS1 => ?_)
  have e1 : cA = cy 1 := by
    have h1 := (hK1.2 4 (cA, .byte) rfl).2
    have h2 := (hK.2 1 (cy 1, .byte) rfl).2
    exact Option.some.inj (h1.symm.trans h2)
  subst e1
  have h := h a
  rw [← hw a] at h
  exact h H1 locs ls hlv hP1 hD1 hS1
theorem c_newZ (F : oc_F X own cc L mc ms b) {n : Int32} {N : Nat} (hd : decode cc pc = .ok (.newarray .boolean, 2)) (hp : pc + 2 = pc') (hc : Cond.arrayClass .boolean ∈ ow_U) (hn : ¬ n < 0) (hN : n.toNatClampNeg = N) (hbytes : N * componentBytes .boolean ≤ 536870912) (hcells : cells + 1 ≤ mc) (hslots : slots + N ≤ ms) {cells' slots' : Nat} (ec : cells + 1 = cells') (es : slots + N = slots') {ws' : Nat → va_W} (hw : ∀ a : Nat, ws ++ [(a, .inl (ow_cy X 2, N, .inl (fun _ => 0)))] = ws' a) (h : ∀ a : Nat, oc_W X lay σf mc ms ci h0 pc' (.ref a :: st) fs (ws' a) cells' slots') : oc_W X lay σf mc ms ci h0 pc (.int n :: st) fs ws cells slots := by
  obtain ⟨p, l, e, R, s, m, args, below, meth, c, D, cy, A, q, t⟩ := X
  intro H locs ls hlv hP hD hS
  obtain ⟨hx, hb, hml, hown, hts, hK, hr, hlk, hA, hR, hin, hro, hNN⟩ := F
  subst hp; subst hR; subst ec; subst es
  refine va_newa (atype := .boolean) (ty := .boolean) (a0 := (N, .inl (fun _ => 0))) hx hb (hts _ hc) rfl hK hP hD hS hA (fun _ => rfl) hn hN hbytes hcells hslots hd (fun a cA H1 hK1 hP1 hD1 hS1 => ?_)
  have e1 : cA = cy 2 := by
    have h1 := (hK1.2 4 (cA, .boolean) rfl).2
    have h2 := (hK.2 2 (cy 2, .boolean) rfl).2
    exact Option.some.inj (h1.symm.trans h2)
  subst e1
  have h := h a
  rw [← hw a] at h
  exact h H1 locs ls hlv hP1 hD1 hS1
theorem c_newJ (F : oc_F X own cc L mc ms b) {n : Int32} {N : Nat} (hd : decode cc pc = .ok (.newarray .long, 2)) (hp : pc + 2 = pc') (hc : Cond.arrayClass .long ∈ ow_U) (hn : ¬ n < 0) (hN : n.toNatClampNeg = N) (hbytes : N * componentBytes .long ≤ 536870912) (hcells : cells + 1 ≤ mc) (hslots : slots + N ≤ ms) {cells' slots' : Nat} (ec : cells + 1 = cells') (es : slots + N = slots') {ws' : Nat → va_W} (hw : ∀ a : Nat, ws ++ [(a, .inl (ow_cy X 3, N, .inr (.inl (fun _ => 0))))] = ws' a) (h : ∀ a : Nat, oc_W X lay σf mc ms ci h0 pc' (.ref a :: st) fs (ws' a) cells' slots') : oc_W X lay σf mc ms ci h0 pc (.int n :: st) fs ws cells slots := by
  obtain ⟨p, l, e, R, s, m, args, below, meth, c, D, cy, A, q, t⟩ := X
  intro H locs ls hlv hP hD hS
  obtain ⟨hx, hb, hml, hown, hts, hK, hr, hlk, hA, hR, hin, hro, hNN⟩ := F
  subst hp; subst hR; subst ec; subst es
  refine va_newa (atype := .long) (ty := .long) (a0 := (N, .inr (.inl (fun _ => 0)))) hx hb (hts _ hc) rfl hK hP hD hS hA (fun _ => rfl) hn hN hbytes hcells hslots hd (fun a cA H1 hK1 hP1 hD1 hS1 => ?_)
  have e1 : cA = cy 3 := by
    have h1 := (hK1.2 4 (cA, .long) rfl).2
    have h2 := (hK.2 3 (cy 3, .long) rfl).2
    exact Option.some.inj (h1.symm.trans h2)
  subst e1
  have h := h a
  rw [← hw a] at h
  exact h H1 locs ls hlv hP1 hD1 hS1
variable {N k idx : Nat} {C nm ds : String} {T : u_T} {ty0 : Nat → FieldType} {fin : Bool}
/-- a final field gets its array or object -/
theorem c_putR (F : oc_F X C cc L mc ms b) (kc : ow_K ci C T N ty0) {a : Nat} {ty : FieldType} (hd : decode cc pc = .ok (.putfield idx, 3)) (hp : pc + 3 = pc') (hT : T k = (C, nm, ds, true)) (hk : k < N) (hlink : Cond.fieldLink C idx C nm ds ∈ ow_U) (hty : ty0 k = ty) (hna : narrow ty (.ref a) = .ref a) (hfi : fits ty (.ref a) = true) (hl : k < fs.length) (hfs : fs.set k (.ref a) = fs') (h : oc_W X lay σf mc ms ci h0 pc' st fs' ws cells slots) : oc_W X lay σf mc ms ci h0 pc (.ref a :: .ref h0 :: st) fs ws cells slots := by
  obtain ⟨p, l, e, R, s, m, args, below, meth, c, D, cy, A, q, t⟩ := X
  intro H locs ls hlv hP hD hS
  obtain ⟨hx, hb, hml, hown, hts, hK, hr, hlk, hA, hR, hin, hro, hNN⟩ := F
  obtain ⟨kc, kin, kty, knm⟩ := kc
  subst hp; subst hfs
  exact va_putF (ci := ci) (v := .ref a) (ty := ty) (ref := C) hx hb hts kin ty0 kty knm hown hK hP hD hS 0 rfl kc k hk (by rw [hT]; exact hts _ hlink) (fun x h9 => by rw [hT] at h9 ⊢; exact h9) (by rw [hT]) hin (by rw [hT]) (by rw [← hty]; exact kty k hk) hna hfi hl hd (fun H1 locs1 hP1 hD1 hS1 => h H1 locs1 ls hlv hP1 hD1 hS1)
theorem c_putI (F : oc_F X C cc L mc ms b) (kc : ow_K ci C T N ty0) {x : Int32} {ty : FieldType} (hd : decode cc pc = .ok (.putfield idx, 3)) (hp : pc + 3 = pc') (hT : T k = (C, nm, ds, false)) (hk : k < N) (hlink : Cond.fieldLink C idx C nm ds ∈ ow_U) (hty : ty0 k = ty) (hna : narrow ty (.int x) = .int x) (hfi : fits ty (.int x) = true) (hl : k < fs.length) (hfs : fs.set k (.int x) = fs') (h : oc_W X lay σf mc ms ci h0 pc' st fs' ws cells slots) : oc_W X lay σf mc ms ci h0 pc (.int x :: .ref h0 :: st) fs ws cells slots := by
  obtain ⟨p, l, e, R, s, m, args, below, meth, c, D, cy, A, q, t⟩ := X
  intro H locs ls hlv hP hD hS
  obtain ⟨hx, hb, hml, hown, hts, hK, hr, hlk, hA, hR, hin, hro, hNN⟩ := F
  obtain ⟨kc, kin, kty, knm⟩ := kc
  subst hp; subst hfs
  exact va_put (ci := ci) (v := .int x) (ty := ty) (ref := C) hx hb hts kin ty0 kty knm hown hK hP hD hS 0 rfl kc k hk (by rw [hT]; exact hts _ hlink) (fun x h9 => by rw [hT] at h9 ⊢; exact h9) (by rw [hT]) (by rw [← hty]; exact kty k hk) hna hfi hl hd (fun H1 locs1 hP1 hD1 hS1 => h H1 locs1 ls hlv hP1 hD1 hS1)
theorem c_new (F : oc_F X own cc L mc ms b) {cj : Nat} (kc : ow_K cj C T N ty0) {fj : List Value} (hd : decode cc pc = .ok (.new idx, 3)) (hp : pc + 3 = pc') (hcl : Cond.classLink own idx C ∈ ow_U) (hins : Cond.instantiable C N ∈ ow_U) (hini : Cond.initialized C ∈ ow_U) (hfs : ∀ j, j < N → defaultValue (ty0 j) = vp_V fj j) (hcells : cells + 1 ≤ mc) (hslots : slots + N ≤ ms) {cells' slots' : Nat} (ec : cells + 1 = cells') (es : slots + N = slots') (h : ∀ a : Nat, oc_W X lay σf mc ms ci h0 pc' (.ref a :: st) fs (ws ++ [(a, .inr (cj, fj))]) cells' slots') : oc_W X lay σf mc ms ci h0 pc st fs ws cells slots := by
  obtain ⟨p, l, e, R, s, m, args, below, meth, c, D, cy, A, q, t⟩ := X
  intro H locs ls hlv hP hD hS
  obtain ⟨hx, hb, hml, hown, hts, hK, hr, hlk, hA, hR, hin, hro, hNN⟩ := F
  obtain ⟨kc, kin, kty, knm⟩ := kc
  subst hp; subst hR; subst ec; subst es
  exact va_new (ci := cj) (fs := fj) hx hb hts kin ty0 kty hown (hts _ hcl) (hts _ hins) (hts _ hini) hK hP hD hS hA kc hfs hcells hslots hd (fun a H1 hP1 hD1 hS1 => h a H1 locs ls hlv hP1 hD1 hS1)
theorem c_ret (F : oc_F X own cc L mc ms b) (q : Nat → Nat) (hq : q 0 = h0) (hw : (h0, Sum.inr (ci, fs)) :: ws = ow_wgo q (ow_cy X) σf 0 lay) (hc : cells = mc) (hs : slots = ms) (hd : decode cc pc = .ok (.return_, 1)) : oc_W X lay σf mc ms ci h0 pc [] fs ws cells slots := by
  obtain ⟨p, l, e, R, s, m, args, below, meth, c, D, cy, A, q9, t⟩ := X
  intro H locs ls hlv hP hD hS
  obtain ⟨hx, hb, hml, hown, hts, hK, hr, hlk, hA, hR, hin, hro, hNN⟩ := F
  subst hc; subst hs
  have hw : (h0, Sum.inr (ci, fs)) :: ws = ow_w lay q cy σf := hw.trans ow_wgo_eq.symm
  rw [hw] at hP hD
  exact W.vret hx hb hr (fun t ht hW => ⟨rfl, ⟨q, hq, by rw [ht]; exact hP, hD⟩, hS.F ht⟩) hS.2.2 hd
end OCR
/-- two worlds beside each other -/
theorem va_P_left {D : va_G} {cl : List vw_C} {w1 w2 : va_W} {H : Heap} (h : va_P D cl (w1 ++ w2) H) : va_P D cl w1 H := fun k x hx => h k x (by rw [List.getElem?_append_left ((List.getElem?_eq_some_iff.mp hx).1)]; exact hx)
theorem va_P_right {D : va_G} {cl : List vw_C} {w1 w2 : va_W} {H : Heap} (h : va_P D cl (w1 ++ w2) H) : va_P D cl w2 H := fun k x hx => h (w1.length + k) x (by rw [List.getElem?_append_right (by omega), Nat.add_sub_cancel_left]; exact hx)
theorem va_D_left {A : Nat → Prop} {w1 w2 : va_W} (h : va_D A (w1 ++ w2)) : va_D A w1 :=
  ⟨fun i j x y hx hy e => h.1 i j x y (by rw [List.getElem?_append_left ((List.getElem?_eq_some_iff.mp hx).1)]; exact hx) (by rw [List.getElem?_append_left ((List.getElem?_eq_some_iff.mp hy).1)]; exact hy) e, fun k x hx => h.2 k x (by rw [List.getElem?_append_left ((List.getElem?_eq_some_iff.mp hx).1)]; exact hx)⟩
theorem va_D_right {A : Nat → Prop} {w1 w2 : va_W} (h : va_D A (w1 ++ w2)) : va_D A w2 :=
  ⟨fun i j x y hx hy e => by
    have := h.1 (w1.length + i) (w1.length + j) x y (by rw [List.getElem?_append_right (by omega), Nat.add_sub_cancel_left]; exact hx) (by rw [List.getElem?_append_right (by omega), Nat.add_sub_cancel_left]; exact hy) e
    omega, fun k x hx => h.2 (w1.length + k) x (by rw [List.getElem?_append_right (by omega), Nat.add_sub_cancel_left]; exact hx)⟩
theorem va_D_apart {A : Nat → Prop} {w1 w2 : va_W} (h : va_D A (w1 ++ w2)) : ∀ (i j : Nat) (x y : Nat × va_E), w1[i]? = some x → w2[j]? = some y → x.1 ≠ y.1 := by
  intro i j x y hx hy e
  have hi := (List.getElem?_eq_some_iff.mp hx).1
  have := h.1 i (w1.length + j) x y (by rw [List.getElem?_append_left hi]; exact hx) (by rw [List.getElem?_append_right (by omega), Nat.add_sub_cancel_left]; exact hy) e
  omega
/-- behind a call over the second world: the first is unchanged -/
theorem va_join2 {A0 : Nat → Prop} {D : va_G} {cl : List vw_C} {wr wc w1 : va_W} {H H1 : Heap} (hP : va_P D cl (wr ++ wc) H) (hD : va_D A0 (wr ++ wc)) (hk : ∀ q : Nat, q < H.size → ¬ va_A wc H.size q → H1[q]? = H[q]?) (hF : ∀ q, va_A wc H.size q → A0 q) (hP1 : va_P D cl w1 H1) (hD1 : va_D (va_A wc H.size) w1) : va_P D cl (wr ++ w1) H1 ∧ va_D A0 (wr ++ w1) := by
  have apart : ∀ (k : Nat) (x : Nat × va_E), wr[k]? = some x → x.1 < H.size ∧ ¬ va_A wc H.size x.1 := by
    intro k x hx
    have hl := (va_P_left hP k x hx).lt
    refine ⟨hl, fun h => ?_⟩
    rcases h with ⟨k2, e, h⟩ | h
    · exact va_D_apart hD k k2 x (x.1, e) hx h rfl
    · omega
  refine ⟨va_P.app (fun k x hx => ?_) hP1, va_D.app (va_D_left hD) (hD1.weaken (fun k x _ h => hF x.1 h)) (fun i j x y hx hy hxy => ?_)⟩
  · obtain ⟨g1, g2⟩ := apart k x hx
    exact (va_P_left hP k x hx).kept (hk x.1 g1 g2)
  · exact (apart i x hx).2 (by rw [hxy]; exact hD1.2 j y hy)
theorem oc_blind {b : Bool} {t : Nat → Nat} {cy : Nat → ClassId} {D : va_G} {w : va_W} {sz : Nat} {av : List Value} : FrameBlind (va_Pc av (oc_pre b t cy D w sz)) := by
  intro a U g mk h
  obtain ⟨h0, h1, h2, h3, h4, h5, h6⟩ := h
  exact ⟨h0, h1, h2, va_K.moved (u := U) (U := U.calling g mk a) (Vm.Alike.refl U.vm) h3, h4, fun hb => (h5 hb).calling g mk a, h6.calling g mk a⟩
/-- a constructor as a callee: what the tables have of it -/
def ow_YI (y : MethodName) (bytes : ByteArray) : Prop := (y.name = "<init>" ∧ y.cls ≠ "java/lang/invoke/MethodHandle" ∧ y.cls ≠ "java/lang/invoke/VarHandle" ∧ (parseMethodDescriptor y.desc).map (fun d => d.parameters.length) = some 0) ∧ Cond.instanceMethod y ∈ ow_U ∧ Cond.initialized y.cls ∈ ow_U ∧ Cond.code y bytes 1 none ∈ ow_U
theorem oc_room {L Lc mc ms mc' ms' : Nat} (hL : Lc < L) : (oc_rm Lc mc' ms').frames + 1 ≤ (oc_rm L mc ms).frames ∧ 8 + (1 + 11) + (oc_rm Lc mc' ms').locals ≤ (oc_rm L mc ms).locals := by
  simp only [oc_rm]
  omega
/-- a nested constructor is called on the cell made last -/
theorem c_ctor {X : ow_X} {lay layc : List ow_C} {σf : ow_S} {mc ms mc' ms' ci h0 pc pc' cj a : Nat} {st fs fj : List Value} {ws : va_W} {cells slots : Nat} {own : String} {cc bytes : ByteArray} {L Lc idx : Nat} {b : Bool} {y : MethodName} (F : oc_F X own cc L mc ms b) (hM : oc_M layc ow_z false Lc mc' ms' y bytes cj fj) (hY : ow_YI y bytes) (hlink : (own, idx, y, "OwnHurt") ∈ oc_nl) (hL : Lc < L) (hd : decode cc pc = .ok (.invokespecial idx, 3)) (hp : pc + 3 = pc') (hcells : cells + mc' ≤ mc) (hslots : slots + ms' ≤ ms) {cells' slots' : Nat} (ec : cells + mc' = cells') (es : slots + ms' = slots') (hroom : (st.map fun v => v.category).sum ≤ 8)
    (h : ∀ q : Nat → Nat, q 0 = a → oc_W X lay σf mc ms ci h0 pc' st fs (ws ++ ow_wgo q (ow_cy X) ow_z 0 layc) cells' slots') : oc_W X lay σf mc ms ci h0 pc (.ref a :: st) fs (ws ++ [(a, .inr (cj, fj))]) cells slots := by
  obtain ⟨p, l, e, R, s, m, args, below, meth, c, D, cy, A, q9, t⟩ := X
  intro H locs ls hlv hP hD hS
  obtain ⟨hx, hb, hml, hown, hts, hK, hr, hlk, hA, hR, hin, hro, hNN⟩ := F
  subst hp; subst hR; subst ec; subst es
  obtain ⟨⟨hy1, hy2⟩, h1, h2, h3⟩ := hY
  have hP' : va_P D vwCl (((h0, Sum.inr (ci, fs)) :: ws) ++ [(a, .inr (cj, fj))]) H := hP
  have hD' : va_D A (((h0, Sum.inr (ci, fs)) :: ws) ++ [(a, .inr (cj, fj))]) := hD
  have hsub : ∀ x, va_A [(a, .inr (cj, fj))] H.size x → A x := by
    intro x h
    rcases h with ⟨k, y, h⟩ | h
    · exact (va_D_right hD').2 k _ h
    · exact hA x (Nat.le_trans hS.1 h)
  have hG : GoodIn ow_U (Cond.code y bytes 1 none :: ow_U) := ow_gd (fun w hw => (List.mem_cons.mp hw).elim (fun e => by rw [e]; exact h3) id)
  have cw : va_CN (oc_rm L mc ms) s args own idx y "OwnHurt" bytes 1 none (Cond.code y bytes 1 none :: ow_U) (oc_rm Lc mc' ms') mc' ms' 0 ∧ y.name = "<init>" ∧ (Cond.instanceMethod y).before args s = true := ⟨va_cnB 0 hts hG rfl rfl rfl (hNN _ hlink) (hts _ h2) hy2 (oc_room hL), hy1, hts _ h1⟩
  have hrun := va_runIN (host := "OwnHurt") (g := F0 m pc ls (.ref a :: st)) (locs := locs) (cells := cells) (slots := slots) (H := H) (below := below) (meth := meth) (e := e) (As := []) (rest := st) (b := a) ⟨hx, hb, hml, hown, hts⟩ (hM l D cy a H.size t) cw ⟨oc_blind, fun U hU hW => ⟨rfl, by rw [hU], by rw [hU]; exact va_P_right hP', va_K.moved hW.alike hK, (va_D_right hD').weaken (fun _ _ _ _ => trivial), (fun h => by cases h), hNN.warm hW⟩⟩ rfl rfl hlv.1 rfl (lv_room hroom) hd ⟨hcells, hslots⟩
  intro T hT XX
  obtain ⟨v, st₀, t2, T', Lc2, h0', X', hL', e1, e2, ⟨hv, ⟨q, hq0, hPc, hDc⟩, hz, hk⟩, stp⟩ := hrun T hT XX
  cases hv
  rw [h0'] at hz hk
  have hkk : ∀ x : Nat, x < H.size → ¬ va_A [(a, .inr (cj, fj))] H.size x → T'.heap[x]? = H[x]? := fun x g1 g2 => by rw [e1]; exact hk x g1 g2
  obtain ⟨hP2, hD2⟩ := va_join2 hP' hD' hkk hsub (by rw [e1]; exact hPc) hDc
  have hS2 : va_S A s.heap T'.heap (locs ++ Lc2) := ⟨Nat.le_trans hS.1 (by rw [e1]; exact hz), fun x g1 g2 => by rw [hkk x (Nat.lt_of_lt_of_le g1 hS.1) (fun z => g2 (hsub x z))]; exact hS.2.1 x g1 g2, fun x hx => by
      rcases List.mem_append.mp hx with h | h
      · exact hS.2.2 x h
      · exact hsub _ (hL' x h)⟩
  rw [ow_wgo_eq] at hP2 hD2
  obtain ⟨t3, a1, b1⟩ := h q hq0 T'.heap (locs ++ Lc2) ls hlv hP2 hD2 hS2 T' rfl X'
  exact ⟨t3, stp t3 a1, b1⟩
/-- the constructor's last deed: a method of the object itself, then the return -/
theorem c_fin {X : ow_X} {lay : List ow_C} {σ0 σf : ow_S} {mc ms ci h0 pc : Nat} {fs : List Value} {ws : va_W} {cells slots : Nat} {own C : String} {cc bytes : ByteArray} {L Lc idx maxL ci2 N : Nat} {b : Bool} {y : MethodName} {T : u_T} {fs2 : List (Option Nat)} {f : ow_S → Option (Unit × ow_S)} (F : oc_F X own cc L mc ms b) (hM : ow_M lay b Lc y bytes maxL none (fun q _ => [.ref (q 0)]) ow_vv f) (hY : ow_YV C y 0 bytes maxL none) (hlink : Cond.methodLink own idx y ∈ ow_U) (hL : Lc < L) (q : Nat → Nat) (hq : q 0 = h0) (hw : (h0, Sum.inr (ci, fs)) :: ws = ow_wgo q (ow_cy X) σ0 0 lay) (hf : f σ0 = some ((), σf)) (hj : lay[0]? = some (.inr (ci2, fs2))) (hc0 : vwCl[ci2]? = some (C, T, N)) (hc : cells = mc) (hs : slots = ms) (hd : decode cc pc = .ok (.invokevirtual idx, 3)) (hd2 : decode cc (pc + 3) = .ok (.return_, 1)) : oc_W X lay σf mc ms ci h0 pc [.ref h0] fs ws cells slots := by
  obtain ⟨p, l, e, R, s, m, args, below, meth, c, D, cy, A, q9, t⟩ := X
  intro H locs ls hlv hP hD hS
  obtain ⟨hx, hb, hml, hown, hts, hK, hr, hlk, hA, hR, hin, hro, hNN⟩ := F
  subst hc; subst hs; subst hR; subst hq
  have hw : (q 0, Sum.inr (ci, fs)) :: ws = ow_w lay q cy σ0 := hw.trans ow_wgo_eq.symm
  rw [hw] at hP hD
  have hsub : ∀ x, va_A (ow_w lay q cy σ0) H.size x → A x := by
    intro x h
    rcases h with ⟨k, y, h⟩ | h
    · exact hD.2 k _ h
    · exact hA x (Nat.le_trans hS.1 h)
  have hrm : (ow_rm Lc).frames + 1 ≤ (oc_rm L cells slots).frames ∧ 8 + (maxL + 11) + (ow_rm Lc).locals ≤ (oc_rm L cells slots).locals := by
    have := hY.2.2.2.2.2
    simp only [oc_rm, ow_rm]
    omega
  have hrun := va_runV (g := F0 m pc ls [.ref (q 0)]) (locs := locs) (cells := cells) (slots := slots) (H := H) (below := below) (meth := meth) (e := e) (As := []) (rest := []) (b := q 0) (C := C) ⟨hx, hb, hml, hown, hts⟩ (hM l D cy q t H.size σ0 ((), σf) hf) (cwV 0 hts (ow_gV hY hlink) rfl rfl rfl hY.1 hrm) ⟨ow_blind, va_recv hK hP hc0 (ow_at hj), fun U hU hW => ⟨rfl, ow_preat hU hW hP hD hS hK hA hro⟩⟩ rfl rfl hlv.1 rfl (lv_room (Nat.zero_le _)) hd ⟨Nat.le_refl _, Nat.le_refl _⟩
  intro T2 hT XX
  obtain ⟨v, st₀, t2, T', Lc2, h0', X', hL', e1, e2, ⟨hv, hPc, hz, hk⟩, stp⟩ := hrun T2 hT XX
  cases hv
  rw [h0'] at hz hk
  have hS2 : va_S A s.heap T'.heap (locs ++ Lc2) := ⟨Nat.le_trans hS.1 (by rw [e1]; exact hz), fun x g1 g2 => by rw [e1, hk x (Nat.lt_of_lt_of_le g1 hS.1) (fun z => g2 (hsub x z))]; exact hS.2.1 x g1 g2, fun x hx => by
      rcases List.mem_append.mp hx with h | h
      · exact hS.2.2 x h
      · exact hsub _ (hL' x h)⟩
  have hP2 : va_P D vwCl (ow_w lay q cy σf) T'.heap := by rw [e1]; exact hPc
  have hfin : W p l e (oc_rm L cells slots) s m args below meth c T'.heap (locs ++ Lc2) cells slots (MQ below (oc_Q lay σf D cy A (q 0)) args s cells slots A) (F0 m (pc + 3) ls []) := W.vret hx hb hr (fun t ht hW => ⟨rfl, ⟨q, rfl, by rw [ht]; exact hP2, ow_D hD⟩, hS2.F ht⟩) hS2.2.2 hd2
  obtain ⟨t3, a1, b1⟩ := hfin T' rfl X'
  exact ⟨t3, stp t3 a1, b1⟩
theorem oc_intro {lay : List ow_C} {σf : ow_S} {b : Bool} {L mc ms : Nat} {y : MethodName} {cc : ByteArray} {ci : Nat} {fs0 : List Value} (hy : plainName y.cls = true) (hn : y.name = "<init>")
    (h : ∀ (X : ow_X) (h0 : Nat), oc_F X y.cls cc L mc ms b → oc_W X lay σf mc ms ci h0 0 [] fs0 [] 0 0) : oc_M lay σf b L mc ms y cc ci fs0 := by
  intro l D cy h0 sz t
  refine Met.ofW (cc := cc) (maxL := 1) (ret := none) hy rfl ?_
  intro p e s m args below meth c s₁ B hml hv
  obtain ⟨rfl, hsz, hP, hK, hD0, hro, hNN⟩ := hv
  have hts : ∀ w ∈ ow_U, w.before ([Value.ref h0] : List Value).toArray s = true := fun w hw => atoms_spec (ws := Cond.code y cc 1 none :: ow_U) B.pre w (List.mem_cons_of_mem _ hw)
  have hown : s.vm.findClass y.cls = some m.cls := findClass_of_methodNamed B.named
  subst hsz
  have hD := hD0.self (sz := s.heap.size)
  have hl := lv_entry ([.ref h0]) (n := 1) (Nat.le_of_ble_eq_true rfl)
  rw [lg_entry_eq]
  have hin : meth.name = "<init>" := (name_of_methodNamed B.named B.method).1.trans hn
  have F : oc_F (p, l, e, (headSpec (Cond.code y cc 1 none :: ow_U) (oc_rm L mc ms)).room, s, m, ([Value.ref h0] : List Value).toArray, below, meth, c, D, cy, va_A [(h0, .inr (ci, fs0))] s.heap.size, fun _ => 0, t) y.cls cc L mc ms b := ⟨B.exec, B.bytes, hml, hown, hts, hK, B.returns, B.notSynchronized, fun a h => Or.inr h, rfl, hin, hro, hNN⟩
  exact h _ h0 F s.heap [] _ hl hP hD va_S.rf
