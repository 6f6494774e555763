/-- THE words that every method of this claim is proved under: all words of the tables that last -/
def ow_U : List Cond := lw_tbl.filter goodWord
theorem ow_Uin {w : Cond} (h : w ∈ lw_tbl) (hg : goodWord w = true) : w ∈ ow_U := List.mem_filter.mpr ⟨h, hg⟩
theorem ow_U0 {w : Cond} (h : w ∈ k2_sels lw_privs) (hg : goodWord w = true) : w ∈ ow_U := ow_Uin (List.mem_append_left _ h) hg
theorem ow_U1 {w : Cond} (h : w ∈ tables_1_1) (hg : goodWord w = true) : w ∈ ow_U := ow_Uin (List.mem_append_right _ (List.mem_append_left _ h)) hg
theorem ow_U2 {w : Cond} (h : w ∈ tables_1_2) (hg : goodWord w = true) : w ∈ ow_U := ow_Uin (List.mem_append_right _ (List.mem_append_right _ (List.mem_append_left _ h))) hg
theorem ow_U3 {w : Cond} (h : w ∈ tables_1_3) (hg : goodWord w = true) : w ∈ ow_U := ow_Uin (List.mem_append_right _ (List.mem_append_right _ (List.mem_append_right _ (List.mem_append_left _ h)))) hg
theorem ow_U4 {w : Cond} (h : w ∈ tables_1_4) (hg : goodWord w = true) : w ∈ ow_U := ow_Uin (List.mem_append_right _ (List.mem_append_right _ (List.mem_append_right _ (List.mem_append_right _ (List.mem_append_left _ h))))) hg
theorem ow_U5 {w : Cond} (h : w ∈ tables_1_5) (hg : goodWord w = true) : w ∈ ow_U := ow_Uin (List.mem_append_right _ (List.mem_append_right _ (List.mem_append_right _ (List.mem_append_right _ (List.mem_append_right _ (List.mem_append_left _ h)))))) hg
theorem ow_U6 {w : Cond} (h : w ∈ tables_1_6) (hg : goodWord w = true) : w ∈ ow_U := ow_Uin (List.mem_append_right _ (List.mem_append_right _ (List.mem_append_right _ (List.mem_append_right _ (List.mem_append_right _ (List.mem_append_right _ (List.mem_append_left _ h))))))) hg
theorem ow_U7 {w : Cond} (h : w ∈ tables_1_7) (hg : goodWord w = true) : w ∈ ow_U := ow_Uin (List.mem_append_right _ (List.mem_append_right _ (List.mem_append_right _ (List.mem_append_right _ (List.mem_append_right _ (List.mem_append_right _ (List.mem_append_right _ h))))))) hg
/-! the flat memory of an object and all that it holds: cell j, place k; the world of cells out of a layout -/
abbrev ow_S : Type := (Nat → Nat → Int32) × (Nat → Nat → Int64)
abbrev ow_C : Type := (Nat × Nat) ⊕ (Nat × List (Option Nat))
def ow_fv (q : Nat → Nat) (g : Nat → Int32) (k : Nat) (f : Option Nat) : Value := match f with
  | some r => .ref (q r)
  | none => .int (g k)
def ow_cell (q : Nat → Nat) (cy : Nat → ClassId) (σ : ow_S) (j : Nat) (d : ow_C) : va_E := match d with
  | .inl (0, n) => .inl (cy 0, n, .inl (σ.1 j))
  | .inl (1, n) => .inl (cy 1, n, .inl (σ.1 j))
  | .inl (2, n) => .inl (cy 2, n, .inl (σ.1 j))
  | .inl (_, n) => .inl (cy 3, n, .inr (.inl (σ.2 j)))
  | .inr (ci, fs) => .inr (ci, fs.mapIdx (ow_fv q (σ.1 j)))
def ow_w (lay : List ow_C) (q : Nat → Nat) (cy : Nat → ClassId) (σ : ow_S) : va_W := lay.mapIdx (fun j d => (q j, ow_cell q cy σ j d))
def ow_setI (σ : ow_S) (j k : Nat) (v : Int32) : ow_S := (va_up σ.1 j (va_up (σ.1 j) k v), σ.2)
def ow_setL (σ : ow_S) (j k : Nat) (v : Int64) : ow_S := (σ.1, va_up σ.2 j (va_up (σ.2 j) k v))
abbrev ow_ty (cy : Nat → ClassId) : List (ClassId × FieldType) := [(cy 0, .int), (cy 1, .byte), (cy 2, .boolean), (cy 3, .long)]
theorem ow_at {lay : List ow_C} {q : Nat → Nat} {cy : Nat → ClassId} {σ : ow_S} {j : Nat} {d : ow_C} (h : lay[j]? = some d) : (ow_w lay q cy σ)[j]? = some (q j, ow_cell q cy σ j d) := by
  simp [ow_w, List.getElem?_mapIdx, h]
theorem ow_at' {lay : List ow_C} {q : Nat → Nat} {cy : Nat → ClassId} {σ : ow_S} (j : Nat) : (ow_w lay q cy σ)[j]? = (lay[j]?).map (fun d => (q j, ow_cell q cy σ j d)) := by
  simp [ow_w, List.getElem?_mapIdx]
theorem ow_len {lay : List ow_C} {q : Nat → Nat} {cy : Nat → ClassId} {σ : ow_S} : (ow_w lay q cy σ).length = lay.length := by simp [ow_w]
/-- a cell that the change doesn't touch -/
theorem ow_cellI {q : Nat → Nat} {cy : Nat → ClassId} {σ : ow_S} {i j k : Nat} {v : Int32} {d : ow_C} (h : i ≠ j) : ow_cell q cy (ow_setI σ j k v) i d = ow_cell q cy σ i d := by
  have e1 : (ow_setI σ j k v).1 i = σ.1 i := by simp [ow_setI, va_up, h]
  have e2 : (ow_setI σ j k v).2 = σ.2 := rfl
  unfold ow_cell
  rw [e1, e2]
theorem ow_cellL {q : Nat → Nat} {cy : Nat → ClassId} {σ : ow_S} {i j k : Nat} {v : Int64} {d : ow_C} (h : i ≠ j) : ow_cell q cy (ow_setL σ j k v) i d = ow_cell q cy σ i d := by
  have e1 : (ow_setL σ j k v).2 i = σ.2 i := by simp [ow_setL, va_up, h]
  have e2 : (ow_setL σ j k v).1 = σ.1 := rfl
  unfold ow_cell
  rw [e1, e2]
theorem ow_set {lay : List ow_C} {q : Nat → Nat} {cy : Nat → ClassId} {σ σ' : ow_S} {j : Nat} {d : ow_C} {e : va_E} (h : lay[j]? = some d) (he : ow_cell q cy σ' j d = e) (ho : ∀ i d', i ≠ j → ow_cell q cy σ' i d' = ow_cell q cy σ i d') : (ow_w lay q cy σ).set j (q j, e) = ow_w lay q cy σ' := by
  apply List.ext_getElem?
  intro i
  by_cases hi : i = j
  · subst hi
    have hl : i < (ow_w lay q cy σ).length := by rw [ow_len]; exact (List.getElem?_eq_some_iff.mp h).1
    rw [List.getElem?_set_self hl, ow_at h, he]
  · rw [List.getElem?_set_ne (Ne.symm hi), ow_at', ow_at']
    cases lay[i]? with
    | none => rfl
    | some d' => simp [ho i d' hi]
theorem ow_setObj {lay : List ow_C} {q : Nat → Nat} {cy : Nat → ClassId} {σ : ow_S} {j ci k : Nat} {fs : List (Option Nat)} (h : lay[j]? = some (.inr (ci, fs))) (hk : fs[k]? = some none) (v : Int32) : (ow_w lay q cy σ).set j (q j, .inr (ci, (fs.mapIdx (ow_fv q (σ.1 j))).set k (.int v))) = ow_w lay q cy (ow_setI σ j k v) := by
  refine ow_set h ?_ (fun i d' hi => ow_cellI hi)
  show (Sum.inr (ci, fs.mapIdx (ow_fv q ((ow_setI σ j k v).1 j))) : va_E) = _
  congr 2
  apply List.ext_getElem?
  intro i
  have hkl : k < (fs.mapIdx (ow_fv q (σ.1 j))).length := by simp; exact (List.getElem?_eq_some_iff.mp hk).1
  by_cases hi : i = k
  · subst hi
    rw [List.getElem?_set_self hkl]
    simp [List.getElem?_mapIdx, hk, ow_fv, ow_setI, va_up]
  · rw [List.getElem?_set_ne (Ne.symm hi)]
    simp only [List.getElem?_mapIdx]
    cases fs[i]? with
    | none => rfl
    | some f => cases f <;> simp [ow_fv, ow_setI, va_up, hi]
theorem ow_upd (f : Nat → Int32) (k : Nat) (x : Int32) : upd f k x = va_up f k x := rfl
theorem ow_setArr0 {lay : List ow_C} {q : Nat → Nat} {cy : Nat → ClassId} {σ : ow_S} {j n k : Nat} (h : lay[j]? = some (.inl (0, n))) (v : Int32) : (ow_w lay q cy σ).set j (q j, .inl (cy 0, n, .inl (upd (σ.1 j) k v))) = ow_w lay q cy (ow_setI σ j k v) := by
  refine ow_set h ?_ (fun i d' hi => ow_cellI hi)
  show (Sum.inl (cy 0, n, Sum.inl ((ow_setI σ j k v).1 j)) : va_E) = _
  simp [ow_setI, va_up, upd]
  rfl
theorem ow_setArr1 {lay : List ow_C} {q : Nat → Nat} {cy : Nat → ClassId} {σ : ow_S} {j n k : Nat} (h : lay[j]? = some (.inl (1, n))) (v : Int32) : (ow_w lay q cy σ).set j (q j, .inl (cy 1, n, .inl (upd (σ.1 j) k v))) = ow_w lay q cy (ow_setI σ j k v) := by
  refine ow_set h ?_ (fun i d' hi => ow_cellI hi)
  show (Sum.inl (cy 1, n, Sum.inl ((ow_setI σ j k v).1 j)) : va_E) = _
  simp [ow_setI, va_up, upd]
  rfl
theorem ow_setArr2 {lay : List ow_C} {q : Nat → Nat} {cy : Nat → ClassId} {σ : ow_S} {j n k : Nat} (h : lay[j]? = some (.inl (2, n))) (v : Int32) : (ow_w lay q cy σ).set j (q j, .inl (cy 2, n, .inl (upd (σ.1 j) k v))) = ow_w lay q cy (ow_setI σ j k v) := by
  refine ow_set h ?_ (fun i d' hi => ow_cellI hi)
  show (Sum.inl (cy 2, n, Sum.inl ((ow_setI σ j k v).1 j)) : va_E) = _
  simp [ow_setI, va_up, upd]
  rfl
theorem ow_setArr3 {lay : List ow_C} {q : Nat → Nat} {cy : Nat → ClassId} {σ : ow_S} {j n k : Nat} (h : lay[j]? = some (.inl (3, n))) (v : Int64) : (ow_w lay q cy σ).set j (q j, .inl (cy 3, n, .inr (.inl (vp_updL (σ.2 j) k v)))) = ow_w lay q cy (ow_setL σ j k v) := by
  refine ow_set h ?_ (fun i d' hi => ow_cellL hi)
  show (Sum.inl (cy 3, n, Sum.inr (Sum.inl ((ow_setL σ j k v).2 j))) : va_E) = _
  simp [ow_setL, va_up, vp_updL]
  rfl
/-- the addresses are the layout's: a world of other contents is as apart -/
theorem ow_D {lay : List ow_C} {q : Nat → Nat} {cy : Nat → ClassId} {σ σ' : ow_S} {A : Nat → Prop} (h : va_D A (ow_w lay q cy σ)) : va_D A (ow_w lay q cy σ') := by
  have key : ∀ (k : Nat) (x : Nat × va_E), (ow_w lay q cy σ')[k]? = some x → ∃ y, (ow_w lay q cy σ)[k]? = some y ∧ y.1 = x.1 := by
    intro k x hx
    rw [ow_at'] at hx
    cases hd : lay[k]? with
    | none => rw [hd] at hx; cases hx
    | some d => rw [hd] at hx; cases hx; exact ⟨_, ow_at hd, rfl⟩
  refine ⟨fun i j x y hx hy hxy => ?_, fun k x hx => ?_⟩
  · obtain ⟨x', h1, h2⟩ := key i x hx
    obtain ⟨y', h3, h4⟩ := key j y hy
    exact h.1 i j x' y' h1 h3 (h2.trans (hxy.trans h4.symm))
  · obtain ⟨x', h1, h2⟩ := key k x hx
    rw [← h2]
    exact h.2 k x' h1
theorem ow_A {lay : List ow_C} {q : Nat → Nat} {cy : Nat → ClassId} {σ σ' : ow_S} {sz a : Nat} (h : va_A (ow_w lay q cy σ) sz a) : va_A (ow_w lay q cy σ') sz a := by
  rcases h with ⟨k, x, hx⟩ | h
  · rw [ow_at'] at hx
    cases hd : lay[k]? with
    | none => rw [hd] at hx; cases hx
    | some d => rw [hd] at hx; cases hx; exact Or.inl ⟨k, _, ow_at hd⟩
  · exact Or.inr h
/-- the locals, by their places -/
def ow_pr (lv : List (Option Value)) : List (Nat × Value) := lv.zipIdx.filterMap (fun x => x.1.map (fun v => (x.2, v)))
theorem ow_pr_mem {lv : List (Option Value)} {i : Nat} {v : Value} : (i, v) ∈ ow_pr lv ↔ lv[i]? = some (some v) := by
  simp only [ow_pr, List.mem_filterMap]
  constructor
  · rintro ⟨⟨x, j⟩, hx, h⟩
    rw [List.mem_zipIdx_iff_getElem?] at hx
    cases x with
    | none => simp at h
    | some w =>
      simp at h
      obtain ⟨h1, h2⟩ := h
      subst h1; subst h2
      exact hx
  · intro h
    exact ⟨(some v, i), by rw [List.mem_zipIdx_iff_getElem?]; exact h, rfl⟩
theorem ow_lvat {ls : Array Slot} {nL : Nat} {lv : List (Option Value)} (h : lv_has ls nL (ow_pr lv)) {i : Nat} {v : Value} (hk : lv[i]? = some (some v)) : ls[i]? = some (.val v) := h.2.2 (i, v) (ow_pr_mem.mpr hk)
theorem ow_lvle {ls : Array Slot} {nL : Nat} {lv lv' : List (Option Value)} (h : lv_has ls nL (ow_pr lv)) (hk : ∀ (i : Nat) (v : Value), lv'[i]? = some (some v) → lv[i]? = some (some v)) : lv_has ls nL (ow_pr lv') :=
  ⟨h.1, h.2.1, fun x hx => h.2.2 x (ow_pr_mem.mpr (hk _ _ (ow_pr_mem.mp hx)))⟩
/-- fewer known locals, place by place -/
def ow_le : List (Option Value) → List (Option Value) → Prop
  | [], _ => True
  | none :: a, _ :: b => ow_le a b
  | some x :: a, some y :: b => x = y ∧ ow_le a b
  | _, _ => False
theorem ow_le_at : ∀ {lv' lv : List (Option Value)}, ow_le lv' lv → ∀ (i : Nat) (v : Value), lv'[i]? = some (some v) → lv[i]? = some (some v)
  | [], _, _, i, v, h => by simp at h
  | none :: a, [], hl, i, v, h => by simp [ow_le] at hl
  | none :: a, y :: b, hl, i, v, h => by
    cases i with
    | zero => simp at h
    | succ i =>
      rw [List.getElem?_cons_succ] at h ⊢
      exact ow_le_at (lv' := a) (lv := b) hl i v h
  | some x :: a, [], hl, i, v, h => by simp [ow_le] at hl
  | some x :: a, none :: b, hl, i, v, h => by simp [ow_le] at hl
  | some x :: a, some y :: b, hl, i, v, h => by
    obtain ⟨h1, h2⟩ := hl
    cases i with
    | zero => rw [h1] at h; exact h
    | succ i =>
      rw [List.getElem?_cons_succ] at h ⊢
      exact ow_le_at (lv' := a) (lv := b) h2 i v h
/-- a place may be written: no long stands right before it -/
def ow_ok (lv : List (Option Value)) (i : Nat) : Bool := match i with
  | 0 => true
  | k + 1 => match lv[k]? with
    | some (some v) => v.category == 1
    | _ => true
theorem ow_lvset {ls : Array Slot} {nL i : Nat} {lv : List (Option Value)} {v : Value} (hok : ow_ok lv i = true) (h : lv_has ls nL ((i, v) :: (ow_pr lv).filter (fun q => !(q.1 == i) && !(q.1 + 1 == i && q.2.category == 2)))) : lv_has ls nL (ow_pr (lv.set i (some v))) := by
  refine ⟨h.1, h.2.1, fun x hx => h.2.2 x ?_⟩
  obtain ⟨k, w⟩ := x
  have hx' := ow_pr_mem.mp hx
  by_cases hk : k = i
  · subst hk
    rw [List.getElem?_set] at hx'
    simp at hx'
    obtain ⟨-, h2⟩ := hx'
    rw [h2]
    exact List.mem_cons_self
  · rw [List.getElem?_set_ne (Ne.symm hk)] at hx'
    refine List.mem_cons_of_mem _ (List.mem_filter.mpr ⟨ow_pr_mem.mpr hx', ?_⟩)
    by_cases hk1 : k + 1 = i
    · subst hk1
      simp [ow_ok, hx'] at hok
      simp [hok]
    · simp [hk, hk1]
theorem ow_lvset2 {ls : Array Slot} {nL i : Nat} {lv : List (Option Value)} {v : Value} (hok : ow_ok lv i = true) (h : lv_has ls nL ((i, v) :: (ow_pr lv).filter (fun q => !(q.1 == i) && (!(q.1 == i + 1) && !(q.1 + 1 == i && q.2.category == 2))))) : lv_has ls nL (ow_pr ((lv.set i (some v)).set (i + 1) none)) := by
  refine ⟨h.1, h.2.1, fun x hx => h.2.2 x ?_⟩
  obtain ⟨k, w⟩ := x
  have hx' := ow_pr_mem.mp hx
  by_cases hk2 : k = i + 1
  · subst hk2
    rw [List.getElem?_set] at hx'
    simp at hx'
  · rw [List.getElem?_set_ne (Ne.symm hk2)] at hx'
    by_cases hk : k = i
    · subst hk
      rw [List.getElem?_set] at hx'
      simp at hx'
      obtain ⟨-, h2⟩ := hx'
      rw [h2]
      exact List.mem_cons_self
    · rw [List.getElem?_set_ne (Ne.symm hk)] at hx'
      refine List.mem_cons_of_mem _ (List.mem_filter.mpr ⟨ow_pr_mem.mpr hx', ?_⟩)
      by_cases hk1 : k + 1 = i
      · subst hk1
        simp [ow_ok, hx'] at hok
        simp [hok, hk2]
      · simp [hk, hk1, hk2]
/-! the walk's judgement, and its rules -/
def ow_rm (L : Nat) : Room := { frames := L, cells := 0, slots := 0, locals := 64 * L }
def ow_pw : Nat → Int32 := fun k => (if k = 0 then 1 else if k = 1 then 3 else if k = 2 then 9 else if k = 3 then 27 else if k = 4 then 81 else if k = 5 then 243 else if k = 6 then 729 else if k = 7 then 2187 else if k = 8 then 6561 else 19683)
def ow_pow : Nat → Value := fun k => .int (ow_pw k)
def ow_tw : Nat → Int64 := fun k => (if k = 0 then -6148914691236517206 else if k = 1 then -3689348814741910324 else if k = 2 then -1085102592571150096 else if k = 3 then -71777214294589696 else if k = 4 then -281470681808896 else -4294967296)
def ow_tru : Nat → Value := fun k => .long (ow_tw k)
def ow_ab : Nat → Int32 := fun k => (if k ≤ 10 then 97 + nI k else if k = 11 then 109 else if k = 12 then 112 else if k = 13 then 116 else if k = 14 then 118 else if k = 15 then 119 else if k = 16 then 120 else if k = 17 then 121 else 122)
def ow_abc : Nat → Value := fun k => .int (ow_ab k)
/-- what lies outside the object's own cells and is read: two static arrays, a text -/
def ow_RO (t : Nat → Nat) (A : Nat → Prop) (U : State) (H : Heap) : Prop :=
  va_Z "OwnHurt$Plan" "POWERS" "[I" (.ref (t 0)) A U H ∧ va_T .int (t 0) 10 ow_pow A U H ∧ va_Z "OwnHurt$Worlds" "TRUE_IN_WORD" "[J" (.ref (t 1)) A U H ∧ va_T .long (t 1) 6 ow_tru A U H ∧
  vk_R "OwnHurt$Reader" 120 "abcdefghijkmptvwxyz" (t 2) U ∧ va_O "java/lang/String" (t 2) A U H ∧ va_OF "java/lang/String" "value" "[B" (.ref (t 3)) (t 2) A U H ∧ va_OF "java/lang/String" "coder" "B" (.int 0) (t 2) A U H ∧ va_T .byte (t 3) 19 ow_abc A U H ∧ va_Z "java/lang/String" "COMPACT_STRINGS" "Z" (.int 1) A U H
theorem ow_RO.warm {t : Nat → Nat} {A : Nat → Prop} {u U : State} {H : Heap} (hW : u.WarmedH U.vm) (h : ow_RO t A u H) : ow_RO t A U H := by
  obtain ⟨h0, h1, h2, h3, h4, h5, h6, h7, h8, h9⟩ := h
  exact ⟨h0.moved hW.alike, h1.moved hW.alike, h2.moved hW.alike, h3.moved hW.alike, h4.warm hW, h5.moved hW.alike, h6.moved hW.alike, h7.moved hW.alike, h8.moved hW.alike, h9.moved hW.alike⟩
theorem ow_RO.calling {t : Nat → Nat} {A : Nat → Prop} {U : State} {H : Heap} (g : JFrame) (mk : MethodId) (a : Array Value) (h : ow_RO t A U H) : ow_RO t A (U.calling g mk a) H := by
  obtain ⟨h0, h1, h2, h3, h4, h5, h6, h7, h8, h9⟩ := h
  have r : U.vm.Alike (U.calling g mk a).vm := Vm.Alike.refl U.vm
  exact ⟨h0.moved r, h1.moved r, h2.moved r, h3.moved r, h4.same rfl, h5.moved r, h6.moved r, h7.moved r, h8.moved r, h9.moved r⟩
theorem ow_RO.narrow {t : Nat → Nat} {A B : Nat → Prop} {U : State} {H : Heap} (h : ow_RO t A U H) (hAB : ∀ q, B q → A q) : ow_RO t B U H := by
  obtain ⟨h0, h1, h2, h3, h4, h5, h6, h7, h8, h9⟩ := h
  exact ⟨h0.narrow hAB, h1.narrow hAB, h2.narrow hAB, h3.narrow hAB, h4, h5.narrow hAB, h6.narrow hAB, h7.narrow hAB, h8.narrow hAB, h9.narrow hAB⟩
theorem ow_RO.kept {t : Nat → Nat} {A : Nat → Prop} {U : State} {H H1 : Heap} (h : ow_RO t A U H) (hq : ∀ a : Nat, a < H.size → ¬ A a → H1[a]? = H[a]?) : ow_RO t A U H1 := by
  obtain ⟨h0, h1, h2, h3, h4, h5, h6, h7, h8, h9⟩ := h
  exact ⟨h0.kept hq, h1.kept hq, h2.kept hq, h3.kept hq, h4, h5.kept hq, h6.kept hq, h7.kept hq, h8.kept hq, h9.kept hq⟩
/-- before a call, at its end: the object's cells by the memory -/
def ow_pre (lay : List ow_C) (b : Bool) (q t : Nat → Nat) (cy : Nat → ClassId) (D : va_G) (σ : ow_S) (sz : Nat) (U : State) : Prop :=
  U.heap.size = sz ∧ va_P D vwCl (ow_w lay q cy σ) U.heap ∧ va_K D vwCl (ow_ty cy) U ∧ va_D (fun _ => True) (ow_w lay q cy σ) ∧ (b = true → ow_RO t (va_A (ow_w lay q cy σ) sz) U U.heap)
def ow_Q {ρ : Type} (vf : (Nat → Nat) → ρ → Option Value) (lay : List ow_C) (q : Nat → Nat) (cy : Nat → ClassId) (D : va_G) (A : Nat → Prop) (res : ρ × ow_S) : Array Value → State → Outcome → State → Prop :=
  fun _ st oc t => oc = .returned (vf q res.1) ∧ va_P D vwCl (ow_w lay q cy res.2) t.heap ∧ va_F A st t
/-- A METHOD's CONTRACT: it does to the memory what the function f does -/
def ow_M {ρ : Type} (lay : List ow_C) (b : Bool) (L : Nat) (y : MethodName) (cc : ByteArray) (nL : Nat) (ret : Option FieldType) (av : (Nat → Nat) → (Nat → Nat) → List Value) (vf : (Nat → Nat) → ρ → Option Value) (f : ow_S → Option (ρ × ow_S)) : Prop :=
  ∀ (l : Launch) (D : va_G) (cy : Nat → ClassId) (q t : Nat → Nat) (sz : Nat) (σ : ow_S) (res : ρ × ow_S), f σ = some res →
    Met l y (Cond.code y cc nL ret :: ow_U) (ow_rm L) (va_Pc (av q t) (ow_pre lay b q t cy D σ sz)) (ow_Q vf lay q cy D (va_A (ow_w lay q cy σ) sz) res) 0 0 (va_A (ow_w lay q cy σ) sz)
/-- where a walk stands: the machine, the launch, the room .. -/
abbrev ow_X : Type := Program × Launch × Env × Room × State × MethodId × Array Value × List Frame × Method × Code × va_G × (Nat → ClassId) × (Nat → Prop) × (Nat → Nat) × (Nat → Nat)
def ow_F (X : ow_X) (own : String) (cc : ByteArray) (nL : Nat) (ret : Option FieldType) (b : Bool) (L : Nat) : Prop := match X with
  | (p, _, _, R, s, m, args, _, meth, c, D, cy, A, _, t) => p.tables.exec = Jvm.exec ∧ c.code = cc ∧ c.maxLocals = nL ∧ s.vm.findClass own = some m.cls ∧ (∀ w ∈ ow_U, w.before args s = true) ∧ va_K D vwCl (ow_ty cy) s ∧ meth.sig.returnType = ret ∧ meth.locks = false ∧ (∀ a : Nat, s.heap.size ≤ a → A a) ∧ R = ow_rm L ∧ (b = true → ow_RO t A s s.heap)
def ow_q (X : ow_X) : Nat → Nat := X.2.2.2.2.2.2.2.2.2.2.2.2.2.1
def ow_t (X : ow_X) : Nat → Nat := X.2.2.2.2.2.2.2.2.2.2.2.2.2.2
def ow_W {ρ : Type} (X : ow_X) (lay : List ow_C) (nL : Nat) (vf : (Nat → Nat) → ρ → Option Value) (res : ρ × ow_S) (pc : Nat) (lv : List (Option Value)) (st : List Value) (σ : ow_S) : Prop := match X with
  | (p, l, e, R, s, m, args, below, meth, c, D, cy, A, q, _) => ∀ (H : Heap) (locs : List Loc) (ls : Array Slot), lv_has ls nL (ow_pr lv) → va_P D vwCl (ow_w lay q cy σ) H → va_D A (ow_w lay q cy σ) → va_S A s.heap H locs →
    W p l e R s m args below meth c H locs 0 0 (MQ below (ow_Q vf lay q cy D A res) args s 0 0 A) (F0 m pc ls st)
/-- the walk from here on does what 'o' says -/
def ow_G {ρ : Type} (X : ow_X) (lay : List ow_C) (nL : Nat) (vf : (Nat → Nat) → ρ → Option Value) (res : ρ × ow_S) (o : Option (ρ × ow_S)) (pc : Nat) (lv : List (Option Value)) (st : List Value) (σ : ow_S) : Prop := o = some res → ow_W X lay nL vf res pc lv st σ
/-- the words of the shadow: a number named, a join, a call, an index within bounds -/
abbrev ow_lt {α β : Type} (a : α) (f : α → β) : β := f a
abbrev ow_bd {ρ τ : Type} (o : Option (ρ × ow_S)) (f : ρ → ow_S → Option τ) : Option τ := o.bind (fun x => f x.1 x.2)
def ow_in (i : Int32) (n : Nat) : Bool := decide (0 ≤ i) && decide (i.toNatClampNeg < n)
def ow_is01 (x : Int32) : Bool := x == 0 || x == 1
theorem ow_in_vp {i : Int32} {n : Nat} (h : ow_in i n = true) : vp_in i n := by
  simp only [ow_in, Bool.and_eq_true, decide_eq_true_eq] at h
  obtain ⟨h1, h2⟩ := h
  intro hh
  rcases hh with hh | hh
  · exact absurd hh (by rw [Int32.lt_iff_toInt_lt]; rw [Int32.le_iff_toInt_le] at h1; omega)
  · omega
theorem ow_is01_n {x : Int32} (h : ow_is01 x = true) : narrow .boolean (.int x) = .int x := by
  simp only [ow_is01, Bool.or_eq_true, beq_iff_eq] at h
  rcases h with rfl | rfl <;> rfl
theorem ow_is01_f {x : Int32} (h : ow_is01 x = true) : fits .boolean (.int x) = true := by
  simp only [ow_is01, Bool.or_eq_true, beq_iff_eq] at h
  rcases h with rfl | rfl <;> rfl
def ow_isb (x : Int32) : Bool := x.toInt8.toInt32 == x
theorem ow_isb_n {x : Int32} (h : ow_isb x = true) : narrow .byte (.int x) = .int x := by
  simp only [ow_isb, beq_iff_eq] at h
  show Value.int (x.toInt8.toInt32) = .int x
  rw [h]
theorem ow_ite {α : Type} {c : Bool} {x : Option α} {r : α} (h : (if c = true then x else none) = some r) : c = true ∧ x = some r := by
  cases c with
  | false => simp at h
  | true => exact ⟨rfl, by simpa using h⟩
section OWR
variable {ρ : Type} {X : ow_X} {lay : List ow_C} {nL : Nat} {vf : (Nat → Nat) → ρ → Option Value} {res : ρ × ow_S} {o o1 o2 : Option (ρ × ow_S)} {pc pc' : Nat} {lv lv' : List (Option Value)} {st : List Value} {σ : ow_S}
variable {own : String} {cc : ByteArray} {ret : Option FieldType} {b : Bool} {L : Nat}
theorem g_eq {pc1 : Nat} {lv1 : List (Option Value)} {st1 : List Value} (h1 : pc = pc1) (h2 : lv = lv1) (h3 : st = st1) (h : ow_G X lay nL vf res o pc1 lv1 st1 σ) : ow_G X lay nL vf res o pc lv st σ := by subst h1; subst h2; subst h3; exact h
theorem g_le (h : ow_G X lay nL vf res o pc lv' st σ) (hl : ow_le lv' lv) : ow_G X lay nL vf res o pc lv st σ := by
  obtain ⟨p, l, e, R, s, m, args, below, meth, c, D, cy, A, q, t⟩ := X
  intro ho H locs ls hlv hP hD hS
  exact h ho H locs ls (ow_lvle hlv (ow_le_at hl)) hP hD hS
theorem g_none : ow_G X lay nL vf res none pc lv st σ := fun h => by cases h
theorem g_ltI {a : Int32} {f : Int32 → Option (ρ × ow_S)} (h : ∀ v, ow_G X lay nL vf res (f v) pc lv (.int v :: st) σ) : ow_G X lay nL vf res (ow_lt a f) pc lv (.int a :: st) σ := h a
theorem g_ltL {a : Int64} {f : Int64 → Option (ρ × ow_S)} (h : ∀ v, ow_G X lay nL vf res (f v) pc lv (.long v :: st) σ) : ow_G X lay nL vf res (ow_lt a f) pc lv (.long a :: st) σ := h a
theorem g_ltS {a : ow_S} {f : ow_S → Option (ρ × ow_S)} (h : ∀ v, ow_G X lay nL vf res (f v) pc lv st v) : ow_G X lay nL vf res (ow_lt a f) pc lv st a := h a
theorem g_jn {α : Type} {a : α} {f : α → Option (ρ × ow_S)} (P : α → Prop) (h1 : P a) (h2 : ∀ j, P j → ow_G X lay nL vf res (f j) pc lv st σ) : ow_G X lay nL vf res (ow_lt a f) pc lv st σ := h2 a h1

theorem g_iconst (F : ow_F X own cc nL ret b L) {n : Int} {v : Int32} (hd : decode cc pc = .ok (.iconst n, 1)) (hp : pc + 1 = pc') (hv : Int32.ofInt n = v) (h : ow_G X lay nL vf res o pc' lv (.int v :: st) σ) : ow_G X lay nL vf res o pc lv (st) σ := by
  obtain ⟨p, l, e, R, s, m, args, below, meth, c, D, cy, A, q, t⟩ := X
  intro ho H locs ls hlv hP hD hS
  obtain ⟨hx, hb, hml, hown, hts, hK, hr, hlk, hA, hR, hro⟩ := F
  subst hp
  exact lv_iconst hx hb hd hv (h ho H locs ls hlv hP hD hS)
theorem g_bipush (F : ow_F X own cc nL ret b L) {n : Int} {v : Int32} (hd : decode cc pc = .ok (.bipush n, 2)) (hp : pc + 2 = pc') (hv : (Int8.ofInt n).toInt32 = v) (h : ow_G X lay nL vf res o pc' lv (.int v :: st) σ) : ow_G X lay nL vf res o pc lv (st) σ := by
  obtain ⟨p, l, e, R, s, m, args, below, meth, c, D, cy, A, q, t⟩ := X
  intro ho H locs ls hlv hP hD hS
  obtain ⟨hx, hb, hml, hown, hts, hK, hr, hlk, hA, hR, hro⟩ := F
  subst hp
  exact lv_bipush hx hb hd hv (h ho H locs ls hlv hP hD hS)
theorem g_sipush (F : ow_F X own cc nL ret b L) {n : Int} {v : Int32} (hd : decode cc pc = .ok (.sipush n, 3)) (hp : pc + 3 = pc') (hv : (Int16.ofInt n).toInt32 = v) (h : ow_G X lay nL vf res o pc' lv (.int v :: st) σ) : ow_G X lay nL vf res o pc lv (st) σ := by
  obtain ⟨p, l, e, R, s, m, args, below, meth, c, D, cy, A, q, t⟩ := X
  intro ho H locs ls hlv hP hD hS
  obtain ⟨hx, hb, hml, hown, hts, hK, hr, hlk, hA, hR, hro⟩ := F
  subst hp
  exact lv_sipush hx hb hd hv (h ho H locs ls hlv hP hD hS)
theorem g_lconst (F : ow_F X own cc nL ret b L) {n : Fin 2} {v : Int64} (hd : decode cc pc = .ok (.lconst n, 1)) (hp : pc + 1 = pc') (hv : Int64.ofNat (n : Nat) = v) (h : ow_G X lay nL vf res o pc' lv (.long v :: st) σ) : ow_G X lay nL vf res o pc lv (st) σ := by
  obtain ⟨p, l, e, R, s, m, args, below, meth, c, D, cy, A, q, t⟩ := X
  intro ho H locs ls hlv hP hD hS
  obtain ⟨hx, hb, hml, hown, hts, hK, hr, hlk, hA, hR, hro⟩ := F
  subst hp
  exact lv_lconst hx hb hd hv (h ho H locs ls hlv hP hD hS)
theorem g_ldc (F : ow_F X own cc nL ret b L) {n : Nat} {v : Int32} (hd : decode cc pc = .ok (.ldc n, 2)) (hp : pc + 2 = pc') (hc : Cond.constant own n v ∈ ow_U) (h : ow_G X lay nL vf res o pc' lv (.int v :: st) σ) : ow_G X lay nL vf res o pc lv (st) σ := by
  obtain ⟨p, l, e, R, s, m, args, below, meth, c, D, cy, A, q, t⟩ := X
  intro ho H locs ls hlv hP hD hS
  obtain ⟨hx, hb, hml, hown, hts, hK, hr, hlk, hA, hR, hro⟩ := F
  subst hp
  exact lv_ldc hx hb hown (hts _ hc) hd (h ho H locs ls hlv hP hD hS)
theorem g_ldcw (F : ow_F X own cc nL ret b L) {n : Nat} {v : Int32} (hd : decode cc pc = .ok (.ldc_w n, 3)) (hp : pc + 3 = pc') (hc : Cond.constant own n v ∈ ow_U) (h : ow_G X lay nL vf res o pc' lv (.int v :: st) σ) : ow_G X lay nL vf res o pc lv (st) σ := by
  obtain ⟨p, l, e, R, s, m, args, below, meth, c, D, cy, A, q, t⟩ := X
  intro ho H locs ls hlv hP hD hS
  obtain ⟨hx, hb, hml, hown, hts, hK, hr, hlk, hA, hR, hro⟩ := F
  subst hp
  exact lv_ldcw hx hb hown (hts _ hc) hd (h ho H locs ls hlv hP hD hS)
theorem g_ldc2 (F : ow_F X own cc nL ret b L) {n : Nat} {v : Int64} (hd : decode cc pc = .ok (.ldc2_w n, 3)) (hp : pc + 3 = pc') (hc : Cond.constantLong own n v ∈ ow_U) (h : ow_G X lay nL vf res o pc' lv (.long v :: st) σ) : ow_G X lay nL vf res o pc lv (st) σ := by
  obtain ⟨p, l, e, R, s, m, args, below, meth, c, D, cy, A, q, t⟩ := X
  intro ho H locs ls hlv hP hD hS
  obtain ⟨hx, hb, hml, hown, hts, hK, hr, hlk, hA, hR, hro⟩ := F
  subst hp
  exact lv_ldc2 hx hb hown (hts _ hc) hd (h ho H locs ls hlv hP hD hS)
theorem g_iload_n (F : ow_F X own cc nL ret b L) {k : Fin 4} {x : Int32} (hd : decode cc pc = .ok (.iload_n k, 1)) (hp : pc + 1 = pc') (hl : lv[(k : Nat)]? = some (some (.int x))) (h : ow_G X lay nL vf res o pc' lv (.int x :: st) σ) : ow_G X lay nL vf res o pc lv (st) σ := by
  obtain ⟨p, l, e, R, s, m, args, below, meth, c, D, cy, A, q, t⟩ := X
  intro ho H locs ls hlv hP hD hS
  obtain ⟨hx, hb, hml, hown, hts, hK, hr, hlk, hA, hR, hro⟩ := F
  subst hp
  exact lv_iload_n hx hb hd rfl (ow_lvat hlv hl) (h ho H locs ls hlv hP hD hS)
theorem g_iload (F : ow_F X own cc nL ret b L) {k : Nat} {x : Int32} (hd : decode cc pc = .ok (.iload k, 2)) (hp : pc + 2 = pc') (hl : lv[k]? = some (some (.int x))) (h : ow_G X lay nL vf res o pc' lv (.int x :: st) σ) : ow_G X lay nL vf res o pc lv (st) σ := by
  obtain ⟨p, l, e, R, s, m, args, below, meth, c, D, cy, A, q, t⟩ := X
  intro ho H locs ls hlv hP hD hS
  obtain ⟨hx, hb, hml, hown, hts, hK, hr, hlk, hA, hR, hro⟩ := F
  subst hp
  exact lv_iload hx hb hd (ow_lvat hlv hl) (h ho H locs ls hlv hP hD hS)
theorem g_lload_n (F : ow_F X own cc nL ret b L) {k : Fin 4} {x : Int64} (hd : decode cc pc = .ok (.lload_n k, 1)) (hp : pc + 1 = pc') (hl : lv[(k : Nat)]? = some (some (.long x))) (h : ow_G X lay nL vf res o pc' lv (.long x :: st) σ) : ow_G X lay nL vf res o pc lv (st) σ := by
  obtain ⟨p, l, e, R, s, m, args, below, meth, c, D, cy, A, q, t⟩ := X
  intro ho H locs ls hlv hP hD hS
  obtain ⟨hx, hb, hml, hown, hts, hK, hr, hlk, hA, hR, hro⟩ := F
  subst hp
  exact lv_lload_n hx hb hd rfl (ow_lvat hlv hl) (h ho H locs ls hlv hP hD hS)
theorem g_lload (F : ow_F X own cc nL ret b L) {k : Nat} {x : Int64} (hd : decode cc pc = .ok (.lload k, 2)) (hp : pc + 2 = pc') (hl : lv[k]? = some (some (.long x))) (h : ow_G X lay nL vf res o pc' lv (.long x :: st) σ) : ow_G X lay nL vf res o pc lv (st) σ := by
  obtain ⟨p, l, e, R, s, m, args, below, meth, c, D, cy, A, q, t⟩ := X
  intro ho H locs ls hlv hP hD hS
  obtain ⟨hx, hb, hml, hown, hts, hK, hr, hlk, hA, hR, hro⟩ := F
  subst hp
  exact lv_lload hx hb hd (ow_lvat hlv hl) (h ho H locs ls hlv hP hD hS)
theorem g_aload_n (F : ow_F X own cc nL ret b L) {k : Fin 4} {x : Nat} (hd : decode cc pc = .ok (.aload_n k, 1)) (hp : pc + 1 = pc') (hl : lv[(k : Nat)]? = some (some (.ref x))) (h : ow_G X lay nL vf res o pc' lv (.ref x :: st) σ) : ow_G X lay nL vf res o pc lv (st) σ := by
  obtain ⟨p, l, e, R, s, m, args, below, meth, c, D, cy, A, q, t⟩ := X
  intro ho H locs ls hlv hP hD hS
  obtain ⟨hx, hb, hml, hown, hts, hK, hr, hlk, hA, hR, hro⟩ := F
  subst hp
  exact lv_aload_n hx hb hd rfl (ow_lvat hlv hl) (h ho H locs ls hlv hP hD hS)
theorem g_aload (F : ow_F X own cc nL ret b L) {k : Nat} {x : Nat} (hd : decode cc pc = .ok (.aload k, 2)) (hp : pc + 2 = pc') (hl : lv[k]? = some (some (.ref x))) (h : ow_G X lay nL vf res o pc' lv (.ref x :: st) σ) : ow_G X lay nL vf res o pc lv (st) σ := by
  obtain ⟨p, l, e, R, s, m, args, below, meth, c, D, cy, A, q, t⟩ := X
  intro ho H locs ls hlv hP hD hS
  obtain ⟨hx, hb, hml, hown, hts, hK, hr, hlk, hA, hR, hro⟩ := F
  subst hp
  exact lv_aload hx hb hd (ow_lvat hlv hl) (h ho H locs ls hlv hP hD hS)
theorem g_istore_n (F : ow_F X own cc nL ret b L) {k : Fin 4} {x : Int32} (hd : decode cc pc = .ok (.istore_n k, 1)) (hp : pc + 1 = pc') (hn : (k : Nat) < nL) (hok : ow_ok lv k = true) (hl : lv.set k (some (.int x)) = lv') (h : ow_G X lay nL vf res o pc' lv' (st) σ) : ow_G X lay nL vf res o pc lv (.int x :: st) σ := by
  obtain ⟨p, l, e, R, s, m, args, below, meth, c, D, cy, A, q, t⟩ := X
  intro ho H locs ls hlv hP hD hS
  obtain ⟨hx, hb, hml, hown, hts, hK, hr, hlk, hA, hR, hro⟩ := F
  subst hp
  subst hl
  exact lv_istore_n hx hb hd rfl hlv hn rfl (fun ls' hls => h ho H locs ls' (ow_lvset hok hls) hP hD hS)
theorem g_istore (F : ow_F X own cc nL ret b L) {k : Nat} {x : Int32} (hd : decode cc pc = .ok (.istore k, 2)) (hp : pc + 2 = pc') (hn : k < nL) (hok : ow_ok lv k = true) (hl : lv.set k (some (.int x)) = lv') (h : ow_G X lay nL vf res o pc' lv' (st) σ) : ow_G X lay nL vf res o pc lv (.int x :: st) σ := by
  obtain ⟨p, l, e, R, s, m, args, below, meth, c, D, cy, A, q, t⟩ := X
  intro ho H locs ls hlv hP hD hS
  obtain ⟨hx, hb, hml, hown, hts, hK, hr, hlk, hA, hR, hro⟩ := F
  subst hp
  subst hl
  exact lv_istore hx hb hd hlv hn rfl (fun ls' hls => h ho H locs ls' (ow_lvset hok hls) hP hD hS)
theorem g_astore_n (F : ow_F X own cc nL ret b L) {k : Fin 4} {x : Nat} (hd : decode cc pc = .ok (.astore_n k, 1)) (hp : pc + 1 = pc') (hn : (k : Nat) < nL) (hok : ow_ok lv k = true) (hl : lv.set k (some (.ref x)) = lv') (h : ow_G X lay nL vf res o pc' lv' (st) σ) : ow_G X lay nL vf res o pc lv (.ref x :: st) σ := by
  obtain ⟨p, l, e, R, s, m, args, below, meth, c, D, cy, A, q, t⟩ := X
  intro ho H locs ls hlv hP hD hS
  obtain ⟨hx, hb, hml, hown, hts, hK, hr, hlk, hA, hR, hro⟩ := F
  subst hp
  subst hl
  exact lv_astore_n hx hb hd rfl hlv hn rfl (fun ls' hls => h ho H locs ls' (ow_lvset hok hls) hP hD hS)
theorem g_astore (F : ow_F X own cc nL ret b L) {k : Nat} {x : Nat} (hd : decode cc pc = .ok (.astore k, 2)) (hp : pc + 2 = pc') (hn : k < nL) (hok : ow_ok lv k = true) (hl : lv.set k (some (.ref x)) = lv') (h : ow_G X lay nL vf res o pc' lv' (st) σ) : ow_G X lay nL vf res o pc lv (.ref x :: st) σ := by
  obtain ⟨p, l, e, R, s, m, args, below, meth, c, D, cy, A, q, t⟩ := X
  intro ho H locs ls hlv hP hD hS
  obtain ⟨hx, hb, hml, hown, hts, hK, hr, hlk, hA, hR, hro⟩ := F
  subst hp
  subst hl
  exact lv_astore hx hb hd hlv hn rfl (fun ls' hls => h ho H locs ls' (ow_lvset hok hls) hP hD hS)
theorem g_lstore_n (F : ow_F X own cc nL ret b L) {k : Fin 4} {x : Int64} (hd : decode cc pc = .ok (.lstore_n k, 1)) (hp : pc + 1 = pc') (hn : (k : Nat) + 1 < nL) (hok : ow_ok lv k = true) (hl : (lv.set k (some (.long x))).set (k + 1) none = lv') (h : ow_G X lay nL vf res o pc' lv' (st) σ) : ow_G X lay nL vf res o pc lv (.long x :: st) σ := by
  obtain ⟨p, l, e, R, s, m, args, below, meth, c, D, cy, A, q, t⟩ := X
  intro ho H locs ls hlv hP hD hS
  obtain ⟨hx, hb, hml, hown, hts, hK, hr, hlk, hA, hR, hro⟩ := F
  subst hp
  subst hl
  exact lv_lstore_n hx hb hd rfl hlv hn rfl (fun ls' hls => h ho H locs ls' (ow_lvset2 hok hls) hP hD hS)
theorem g_lstore (F : ow_F X own cc nL ret b L) {k : Nat} {x : Int64} (hd : decode cc pc = .ok (.lstore k, 2)) (hp : pc + 2 = pc') (hn : k + 1 < nL) (hok : ow_ok lv k = true) (hl : (lv.set k (some (.long x))).set (k + 1) none = lv') (h : ow_G X lay nL vf res o pc' lv' (st) σ) : ow_G X lay nL vf res o pc lv (.long x :: st) σ := by
  obtain ⟨p, l, e, R, s, m, args, below, meth, c, D, cy, A, q, t⟩ := X
  intro ho H locs ls hlv hP hD hS
  obtain ⟨hx, hb, hml, hown, hts, hK, hr, hlk, hA, hR, hro⟩ := F
  subst hp
  subst hl
  exact lv_lstore hx hb hd hlv hn rfl (fun ls' hls => h ho H locs ls' (ow_lvset2 hok hls) hP hD hS)
theorem g_iinc (F : ow_F X own cc nL ret b L) {k : Nat} {n : Int} {x v : Int32} {g : Int32 → Option (ρ × ow_S)} {lw : Int32 → List (Option Value)} (hd : decode cc pc = .ok (.iinc k n, 3)) (hp : pc + 3 = pc') (hk : lv[k]? = some (some (.int x))) (hv : Int32.ofInt n = v) (hn : k < nL) (hok : ow_ok lv k = true) (hl : ∀ w, lv.set k (some (.int w)) = lw w) (h : ∀ w, ow_G X lay nL vf res (g w) pc' (lw w) st σ) : ow_G X lay nL vf res (ow_lt (x + v) g) pc lv st σ := by
  obtain ⟨p, l, e, R, s, m, args, below, meth, c, D, cy, A, q, t⟩ := X
  intro ho H locs ls hlv hP hD hS
  obtain ⟨hx, hb, hml, hown, hts, hK, hr, hlk, hA, hR, hro⟩ := F
  subst hp
  subst hv
  have h := h (x + Int32.ofInt n)
  rw [← hl] at h
  obtain ⟨j, hj⟩ := List.getElem?_of_mem (ow_pr_mem.mpr hk)
  exact lv_iinc hx hb hd hlv hj rfl hn rfl (fun ls' hls => h ho H locs ls' (ow_lvset hok hls) hP hD hS)
theorem g_iadd (F : ow_F X own cc nL ret b L) {x y : Int32} (hd : decode cc pc = .ok (.iadd, 1)) (hp : pc + 1 = pc')  (h : ow_G X lay nL vf res o pc' lv (.int (x + y) :: st) σ) : ow_G X lay nL vf res o pc lv (.int y :: .int x :: st) σ := by
  obtain ⟨p, l, e, R, s, m, args, below, meth, c, D, cy, A, q, t⟩ := X
  intro ho H locs ls hlv hP hD hS
  obtain ⟨hx, hb, hml, hown, hts, hK, hr, hlk, hA, hR, hro⟩ := F
  subst hp
  exact lv_iadd hx hb hd (h ho H locs ls hlv hP hD hS)
theorem g_isub (F : ow_F X own cc nL ret b L) {x y : Int32} (hd : decode cc pc = .ok (.isub, 1)) (hp : pc + 1 = pc')  (h : ow_G X lay nL vf res o pc' lv (.int (x - y) :: st) σ) : ow_G X lay nL vf res o pc lv (.int y :: .int x :: st) σ := by
  obtain ⟨p, l, e, R, s, m, args, below, meth, c, D, cy, A, q, t⟩ := X
  intro ho H locs ls hlv hP hD hS
  obtain ⟨hx, hb, hml, hown, hts, hK, hr, hlk, hA, hR, hro⟩ := F
  subst hp
  exact lv_isub hx hb hd (h ho H locs ls hlv hP hD hS)
theorem g_imul (F : ow_F X own cc nL ret b L) {x y : Int32} (hd : decode cc pc = .ok (.imul, 1)) (hp : pc + 1 = pc')  (h : ow_G X lay nL vf res o pc' lv (.int (x * y) :: st) σ) : ow_G X lay nL vf res o pc lv (.int y :: .int x :: st) σ := by
  obtain ⟨p, l, e, R, s, m, args, below, meth, c, D, cy, A, q, t⟩ := X
  intro ho H locs ls hlv hP hD hS
  obtain ⟨hx, hb, hml, hown, hts, hK, hr, hlk, hA, hR, hro⟩ := F
  subst hp
  exact lv_imul hx hb hd (h ho H locs ls hlv hP hD hS)
theorem g_iand (F : ow_F X own cc nL ret b L) {x y : Int32} (hd : decode cc pc = .ok (.iand, 1)) (hp : pc + 1 = pc')  (h : ow_G X lay nL vf res o pc' lv (.int (x &&& y) :: st) σ) : ow_G X lay nL vf res o pc lv (.int y :: .int x :: st) σ := by
  obtain ⟨p, l, e, R, s, m, args, below, meth, c, D, cy, A, q, t⟩ := X
  intro ho H locs ls hlv hP hD hS
  obtain ⟨hx, hb, hml, hown, hts, hK, hr, hlk, hA, hR, hro⟩ := F
  subst hp
  exact lv_iand hx hb hd (h ho H locs ls hlv hP hD hS)
theorem g_ior (F : ow_F X own cc nL ret b L) {x y : Int32} (hd : decode cc pc = .ok (.ior, 1)) (hp : pc + 1 = pc')  (h : ow_G X lay nL vf res o pc' lv (.int (x ||| y) :: st) σ) : ow_G X lay nL vf res o pc lv (.int y :: .int x :: st) σ := by
  obtain ⟨p, l, e, R, s, m, args, below, meth, c, D, cy, A, q, t⟩ := X
  intro ho H locs ls hlv hP hD hS
  obtain ⟨hx, hb, hml, hown, hts, hK, hr, hlk, hA, hR, hro⟩ := F
  subst hp
  exact lv_ior hx hb hd (h ho H locs ls hlv hP hD hS)
theorem g_ixor (F : ow_F X own cc nL ret b L) {x y : Int32} (hd : decode cc pc = .ok (.ixor, 1)) (hp : pc + 1 = pc')  (h : ow_G X lay nL vf res o pc' lv (.int (x ^^^ y) :: st) σ) : ow_G X lay nL vf res o pc lv (.int y :: .int x :: st) σ := by
  obtain ⟨p, l, e, R, s, m, args, below, meth, c, D, cy, A, q, t⟩ := X
  intro ho H locs ls hlv hP hD hS
  obtain ⟨hx, hb, hml, hown, hts, hK, hr, hlk, hA, hR, hro⟩ := F
  subst hp
  exact lv_ixor hx hb hd (h ho H locs ls hlv hP hD hS)
theorem g_ishl (F : ow_F X own cc nL ret b L) {x y : Int32} (hd : decode cc pc = .ok (.ishl, 1)) (hp : pc + 1 = pc')  (h : ow_G X lay nL vf res o pc' lv (.int (x <<< (y &&& 31)) :: st) σ) : ow_G X lay nL vf res o pc lv (.int y :: .int x :: st) σ := by
  obtain ⟨p, l, e, R, s, m, args, below, meth, c, D, cy, A, q, t⟩ := X
  intro ho H locs ls hlv hP hD hS
  obtain ⟨hx, hb, hml, hown, hts, hK, hr, hlk, hA, hR, hro⟩ := F
  subst hp
  exact lv_ishl hx hb hd (h ho H locs ls hlv hP hD hS)
theorem g_ishr (F : ow_F X own cc nL ret b L) {x y : Int32} (hd : decode cc pc = .ok (.ishr, 1)) (hp : pc + 1 = pc')  (h : ow_G X lay nL vf res o pc' lv (.int (x >>> (y &&& 31)) :: st) σ) : ow_G X lay nL vf res o pc lv (.int y :: .int x :: st) σ := by
  obtain ⟨p, l, e, R, s, m, args, below, meth, c, D, cy, A, q, t⟩ := X
  intro ho H locs ls hlv hP hD hS
  obtain ⟨hx, hb, hml, hown, hts, hK, hr, hlk, hA, hR, hro⟩ := F
  subst hp
  exact lv_ishr hx hb hd (h ho H locs ls hlv hP hD hS)
theorem g_ladd (F : ow_F X own cc nL ret b L) {x y : Int64} (hd : decode cc pc = .ok (.ladd, 1)) (hp : pc + 1 = pc')  (h : ow_G X lay nL vf res o pc' lv (.long (x + y) :: st) σ) : ow_G X lay nL vf res o pc lv (.long y :: .long x :: st) σ := by
  obtain ⟨p, l, e, R, s, m, args, below, meth, c, D, cy, A, q, t⟩ := X
  intro ho H locs ls hlv hP hD hS
  obtain ⟨hx, hb, hml, hown, hts, hK, hr, hlk, hA, hR, hro⟩ := F
  subst hp
  exact lv_ladd hx hb hd (h ho H locs ls hlv hP hD hS)
theorem g_lsub (F : ow_F X own cc nL ret b L) {x y : Int64} (hd : decode cc pc = .ok (.lsub, 1)) (hp : pc + 1 = pc')  (h : ow_G X lay nL vf res o pc' lv (.long (x - y) :: st) σ) : ow_G X lay nL vf res o pc lv (.long y :: .long x :: st) σ := by
  obtain ⟨p, l, e, R, s, m, args, below, meth, c, D, cy, A, q, t⟩ := X
  intro ho H locs ls hlv hP hD hS
  obtain ⟨hx, hb, hml, hown, hts, hK, hr, hlk, hA, hR, hro⟩ := F
  subst hp
  exact lv_lsub hx hb hd (h ho H locs ls hlv hP hD hS)
theorem g_land (F : ow_F X own cc nL ret b L) {x y : Int64} (hd : decode cc pc = .ok (.land, 1)) (hp : pc + 1 = pc')  (h : ow_G X lay nL vf res o pc' lv (.long (x &&& y) :: st) σ) : ow_G X lay nL vf res o pc lv (.long y :: .long x :: st) σ := by
  obtain ⟨p, l, e, R, s, m, args, below, meth, c, D, cy, A, q, t⟩ := X
  intro ho H locs ls hlv hP hD hS
  obtain ⟨hx, hb, hml, hown, hts, hK, hr, hlk, hA, hR, hro⟩ := F
  subst hp
  exact lv_land hx hb hd (h ho H locs ls hlv hP hD hS)
theorem g_lor (F : ow_F X own cc nL ret b L) {x y : Int64} (hd : decode cc pc = .ok (.lor, 1)) (hp : pc + 1 = pc')  (h : ow_G X lay nL vf res o pc' lv (.long (x ||| y) :: st) σ) : ow_G X lay nL vf res o pc lv (.long y :: .long x :: st) σ := by
  obtain ⟨p, l, e, R, s, m, args, below, meth, c, D, cy, A, q, t⟩ := X
  intro ho H locs ls hlv hP hD hS
  obtain ⟨hx, hb, hml, hown, hts, hK, hr, hlk, hA, hR, hro⟩ := F
  subst hp
  exact lv_lor hx hb hd (h ho H locs ls hlv hP hD hS)
theorem g_lxor (F : ow_F X own cc nL ret b L) {x y : Int64} (hd : decode cc pc = .ok (.lxor, 1)) (hp : pc + 1 = pc')  (h : ow_G X lay nL vf res o pc' lv (.long (x ^^^ y) :: st) σ) : ow_G X lay nL vf res o pc lv (.long y :: .long x :: st) σ := by
  obtain ⟨p, l, e, R, s, m, args, below, meth, c, D, cy, A, q, t⟩ := X
  intro ho H locs ls hlv hP hD hS
  obtain ⟨hx, hb, hml, hown, hts, hK, hr, hlk, hA, hR, hro⟩ := F
  subst hp
  exact lv_lxor hx hb hd (h ho H locs ls hlv hP hD hS)
theorem g_iushr (F : ow_F X own cc nL ret b L) {x y : Int32} (hd : decode cc pc = .ok (.iushr, 1)) (hp : pc + 1 = pc')  (h : ow_G X lay nL vf res o pc' lv (.int ((x.toUInt32 >>> (y.toUInt32 &&& Int32.toUInt32 31)).toInt32) :: st) σ) : ow_G X lay nL vf res o pc lv (.int y :: .int x :: st) σ := by
  obtain ⟨p, l, e, R, s, m, args, below, meth, c, D, cy, A, q, t⟩ := X
  intro ho H locs ls hlv hP hD hS
  obtain ⟨hx, hb, hml, hown, hts, hK, hr, hlk, hA, hR, hro⟩ := F
  subst hp
  exact lv_iushr hx hb hd rfl (h ho H locs ls hlv hP hD hS)
theorem g_lushr (F : ow_F X own cc nL ret b L) {x : Int64} {y : Int32} (hd : decode cc pc = .ok (.lushr, 1)) (hp : pc + 1 = pc')  (h : ow_G X lay nL vf res o pc' lv (.long ((x.toUInt64 >>> (y.toInt64.toUInt64 &&& Int64.toUInt64 63)).toInt64) :: st) σ) : ow_G X lay nL vf res o pc lv (.int y :: .long x :: st) σ := by
  obtain ⟨p, l, e, R, s, m, args, below, meth, c, D, cy, A, q, t⟩ := X
  intro ho H locs ls hlv hP hD hS
  obtain ⟨hx, hb, hml, hown, hts, hK, hr, hlk, hA, hR, hro⟩ := F
  subst hp
  exact lv_lushr hx hb hd rfl (h ho H locs ls hlv hP hD hS)
theorem g_lshl (F : ow_F X own cc nL ret b L) {x : Int64} {y : Int32} (hd : decode cc pc = .ok (.lshl, 1)) (hp : pc + 1 = pc')  (h : ow_G X lay nL vf res o pc' lv (.long (x <<< (y.toInt64 &&& 63)) :: st) σ) : ow_G X lay nL vf res o pc lv (.int y :: .long x :: st) σ := by
  obtain ⟨p, l, e, R, s, m, args, below, meth, c, D, cy, A, q, t⟩ := X
  intro ho H locs ls hlv hP hD hS
  obtain ⟨hx, hb, hml, hown, hts, hK, hr, hlk, hA, hR, hro⟩ := F
  subst hp
  exact lv_lshl hx hb hd rfl (h ho H locs ls hlv hP hD hS)
theorem g_ineg (F : ow_F X own cc nL ret b L) {x : Int32} (hd : decode cc pc = .ok (.ineg, 1)) (hp : pc + 1 = pc')  (h : ow_G X lay nL vf res o pc' lv (.int (-x) :: st) σ) : ow_G X lay nL vf res o pc lv (.int x :: st) σ := by
  obtain ⟨p, l, e, R, s, m, args, below, meth, c, D, cy, A, q, t⟩ := X
  intro ho H locs ls hlv hP hD hS
  obtain ⟨hx, hb, hml, hown, hts, hK, hr, hlk, hA, hR, hro⟩ := F
  subst hp
  exact lv_ineg hx hb hd (h ho H locs ls hlv hP hD hS)
theorem g_i2l (F : ow_F X own cc nL ret b L) {x : Int32} (hd : decode cc pc = .ok (.i2l, 1)) (hp : pc + 1 = pc')  (h : ow_G X lay nL vf res o pc' lv (.long x.toInt64 :: st) σ) : ow_G X lay nL vf res o pc lv (.int x :: st) σ := by
  obtain ⟨p, l, e, R, s, m, args, below, meth, c, D, cy, A, q, t⟩ := X
  intro ho H locs ls hlv hP hD hS
  obtain ⟨hx, hb, hml, hown, hts, hK, hr, hlk, hA, hR, hro⟩ := F
  subst hp
  exact lv_i2l hx hb hd rfl (h ho H locs ls hlv hP hD hS)
theorem g_l2i (F : ow_F X own cc nL ret b L) {x : Int64} (hd : decode cc pc = .ok (.l2i, 1)) (hp : pc + 1 = pc')  (h : ow_G X lay nL vf res o pc' lv (.int x.toInt32 :: st) σ) : ow_G X lay nL vf res o pc lv (.long x :: st) σ := by
  obtain ⟨p, l, e, R, s, m, args, below, meth, c, D, cy, A, q, t⟩ := X
  intro ho H locs ls hlv hP hD hS
  obtain ⟨hx, hb, hml, hown, hts, hK, hr, hlk, hA, hR, hro⟩ := F
  subst hp
  exact lv_l2i hx hb hd rfl (h ho H locs ls hlv hP hD hS)
theorem g_i2b (F : ow_F X own cc nL ret b L) {x : Int32} (hd : decode cc pc = .ok (.i2b, 1)) (hp : pc + 1 = pc')  (h : ow_G X lay nL vf res o pc' lv (.int x.toInt8.toInt32 :: st) σ) : ow_G X lay nL vf res o pc lv (.int x :: st) σ := by
  obtain ⟨p, l, e, R, s, m, args, below, meth, c, D, cy, A, q, t⟩ := X
  intro ho H locs ls hlv hP hD hS
  obtain ⟨hx, hb, hml, hown, hts, hK, hr, hlk, hA, hR, hro⟩ := F
  subst hp
  exact lv_i2b hx hb hd rfl (h ho H locs ls hlv hP hD hS)
theorem g_i2c (F : ow_F X own cc nL ret b L) {x : Int32} (hd : decode cc pc = .ok (.i2c, 1)) (hp : pc + 1 = pc')  (h : ow_G X lay nL vf res o pc' lv (.int (x.toUInt32 % 65536).toInt32 :: st) σ) : ow_G X lay nL vf res o pc lv (.int x :: st) σ := by
  obtain ⟨p, l, e, R, s, m, args, below, meth, c, D, cy, A, q, t⟩ := X
  intro ho H locs ls hlv hP hD hS
  obtain ⟨hx, hb, hml, hown, hts, hK, hr, hlk, hA, hR, hro⟩ := F
  subst hp
  exact lv_i2c hx hb hd rfl (h ho H locs ls hlv hP hD hS)
theorem g_lcmp (F : ow_F X own cc nL ret b L) {x y : Int64} (hd : decode cc pc = .ok (.lcmp, 1)) (hp : pc + 1 = pc')  (h : ow_G X lay nL vf res o pc' lv (.int (lg_cmp x y) :: st) σ) : ow_G X lay nL vf res o pc lv (.long y :: .long x :: st) σ := by
  obtain ⟨p, l, e, R, s, m, args, below, meth, c, D, cy, A, q, t⟩ := X
  intro ho H locs ls hlv hP hD hS
  obtain ⟨hx, hb, hml, hown, hts, hK, hr, hlk, hA, hR, hro⟩ := F
  subst hp
  exact W.lcmp hx hb hd (h ho H locs ls hlv hP hD hS)
theorem g_idiv (F : ow_F X own cc nL ret b L) {x y : Int32} (hd : decode cc pc = .ok (.idiv, 1)) (hp : pc + 1 = pc')  (h : ow_G X lay nL vf res o pc' lv (.int (x / y) :: st) σ) : ow_G X lay nL vf res (if (y != 0) = true then o else none) pc lv (.int y :: .int x :: st) σ := by
  obtain ⟨p, l, e, R, s, m, args, below, meth, c, D, cy, A, q, t⟩ := X
  intro ho H locs ls hlv hP hD hS
  obtain ⟨hx, hb, hml, hown, hts, hK, hr, hlk, hA, hR, hro⟩ := F
  subst hp
  obtain ⟨hc, ho⟩ := ow_ite ho
  exact lv_idiv hx hb hd (by simpa using hc) (h ho H locs ls hlv hP hD hS)
theorem g_irem (F : ow_F X own cc nL ret b L) {x y : Int32} (hd : decode cc pc = .ok (.irem, 1)) (hp : pc + 1 = pc')  (h : ow_G X lay nL vf res o pc' lv (.int (x - x / y * y) :: st) σ) : ow_G X lay nL vf res (if (y != 0) = true then o else none) pc lv (.int y :: .int x :: st) σ := by
  obtain ⟨p, l, e, R, s, m, args, below, meth, c, D, cy, A, q, t⟩ := X
  intro ho H locs ls hlv hP hD hS
  obtain ⟨hx, hb, hml, hown, hts, hK, hr, hlk, hA, hR, hro⟩ := F
  subst hp
  obtain ⟨hc, ho⟩ := ow_ite ho
  exact lv_irem hx hb hd (by simpa using hc) (h ho H locs ls hlv hP hD hS)
theorem g_dup (F : ow_F X own cc nL ret b L) {v : Value} (hd : decode cc pc = .ok (.dup, 1)) (hp : pc + 1 = pc') (hc : v.category = 1) (h : ow_G X lay nL vf res o pc' lv (v :: v :: st) σ) : ow_G X lay nL vf res o pc lv (v :: st) σ := by
  obtain ⟨p, l, e, R, s, m, args, below, meth, c, D, cy, A, q, t⟩ := X
  intro ho H locs ls hlv hP hD hS
  obtain ⟨hx, hb, hml, hown, hts, hK, hr, hlk, hA, hR, hro⟩ := F
  subst hp
  exact lv_dup hx hb hd hc (h ho H locs ls hlv hP hD hS)
theorem g_pop (F : ow_F X own cc nL ret b L) {v : Value} (hd : decode cc pc = .ok (.pop, 1)) (hp : pc + 1 = pc') (hc : v.category = 1) (h : ow_G X lay nL vf res o pc' lv (st) σ) : ow_G X lay nL vf res o pc lv (v :: st) σ := by
  obtain ⟨p, l, e, R, s, m, args, below, meth, c, D, cy, A, q, t⟩ := X
  intro ho H locs ls hlv hP hD hS
  obtain ⟨hx, hb, hml, hown, hts, hK, hr, hlk, hA, hR, hro⟩ := F
  subst hp
  exact lv_pop hx hb hd hc (h ho H locs ls hlv hP hD hS)
theorem g_dup2 (F : ow_F X own cc nL ret b L) {v w : Value} (hd : decode cc pc = .ok (.dup2, 1)) (hp : pc + 1 = pc') (hc : v.category = 1) (hw : w.category = 1) (h : ow_G X lay nL vf res o pc' lv (v :: w :: v :: w :: st) σ) : ow_G X lay nL vf res o pc lv (v :: w :: st) σ := by
  obtain ⟨p, l, e, R, s, m, args, below, meth, c, D, cy, A, q, t⟩ := X
  intro ho H locs ls hlv hP hD hS
  obtain ⟨hx, hb, hml, hown, hts, hK, hr, hlk, hA, hR, hro⟩ := F
  subst hp
  exact lv_dup2_11 hx hb hd hc hw (h ho H locs ls hlv hP hD hS)
theorem g_if_eq (F : ow_F X own cc nL ret b L) {x : Int32} {off : Int} {tgt : Nat} (hd : decode cc pc = .ok (.ifCond .eq off, 3)) (ht : (pc : Int) + off = (tgt : Int)) (hp : pc + 3 = pc') (h1 : ow_G X lay nL vf res o1 tgt lv st σ) (h2 : ow_G X lay nL vf res o2 pc' lv st σ) : ow_G X lay nL vf res (if x = 0 then o1 else o2) pc lv (.int x :: st) σ := by
  obtain ⟨p, l, e, R, s, m, args, below, meth, c, D, cy, A, q, t⟩ := X
  intro ho H locs ls hlv hP hD hS
  obtain ⟨hx, hb, hml, hown, hts, hK, hr, hlk, hA, hR, hro⟩ := F
  subst hp
  exact lv_if_eq hx hb hd ht (fun hc => h1 (by rw [if_pos hc] at ho; exact ho) H locs ls hlv hP hD hS) (fun hc => h2 (by rw [if_neg hc] at ho; exact ho) H locs ls hlv hP hD hS)
theorem g_icmp_eq (F : ow_F X own cc nL ret b L) {x y : Int32} {off : Int} {tgt : Nat} (hd : decode cc pc = .ok (.if_icmp .eq off, 3)) (ht : (pc : Int) + off = (tgt : Int)) (hp : pc + 3 = pc') (h1 : ow_G X lay nL vf res o1 tgt lv st σ) (h2 : ow_G X lay nL vf res o2 pc' lv st σ) : ow_G X lay nL vf res (if x = y then o1 else o2) pc lv (.int y :: .int x :: st) σ := by
  obtain ⟨p, l, e, R, s, m, args, below, meth, c, D, cy, A, q, t⟩ := X
  intro ho H locs ls hlv hP hD hS
  obtain ⟨hx, hb, hml, hown, hts, hK, hr, hlk, hA, hR, hro⟩ := F
  subst hp
  exact lv_icmp_eq hx hb hd ht (fun hc => h1 (by rw [if_pos hc] at ho; exact ho) H locs ls hlv hP hD hS) (fun hc => h2 (by rw [if_neg hc] at ho; exact ho) H locs ls hlv hP hD hS)
theorem g_if_ne (F : ow_F X own cc nL ret b L) {x : Int32} {off : Int} {tgt : Nat} (hd : decode cc pc = .ok (.ifCond .ne off, 3)) (ht : (pc : Int) + off = (tgt : Int)) (hp : pc + 3 = pc') (h1 : ow_G X lay nL vf res o1 tgt lv st σ) (h2 : ow_G X lay nL vf res o2 pc' lv st σ) : ow_G X lay nL vf res (if x = 0 then o2 else o1) pc lv (.int x :: st) σ := by
  obtain ⟨p, l, e, R, s, m, args, below, meth, c, D, cy, A, q, t⟩ := X
  intro ho H locs ls hlv hP hD hS
  obtain ⟨hx, hb, hml, hown, hts, hK, hr, hlk, hA, hR, hro⟩ := F
  subst hp
  exact lv_if_ne hx hb hd ht (fun hc => h1 (by rw [if_neg hc] at ho; exact ho) H locs ls hlv hP hD hS) (fun hc => h2 (by rw [if_pos hc] at ho; exact ho) H locs ls hlv hP hD hS)
theorem g_icmp_ne (F : ow_F X own cc nL ret b L) {x y : Int32} {off : Int} {tgt : Nat} (hd : decode cc pc = .ok (.if_icmp .ne off, 3)) (ht : (pc : Int) + off = (tgt : Int)) (hp : pc + 3 = pc') (h1 : ow_G X lay nL vf res o1 tgt lv st σ) (h2 : ow_G X lay nL vf res o2 pc' lv st σ) : ow_G X lay nL vf res (if x = y then o2 else o1) pc lv (.int y :: .int x :: st) σ := by
  obtain ⟨p, l, e, R, s, m, args, below, meth, c, D, cy, A, q, t⟩ := X
  intro ho H locs ls hlv hP hD hS
  obtain ⟨hx, hb, hml, hown, hts, hK, hr, hlk, hA, hR, hro⟩ := F
  subst hp
  exact lv_icmp_ne hx hb hd ht (fun hc => h1 (by rw [if_neg hc] at ho; exact ho) H locs ls hlv hP hD hS) (fun hc => h2 (by rw [if_pos hc] at ho; exact ho) H locs ls hlv hP hD hS)
theorem g_if_lt (F : ow_F X own cc nL ret b L) {x : Int32} {off : Int} {tgt : Nat} (hd : decode cc pc = .ok (.ifCond .lt off, 3)) (ht : (pc : Int) + off = (tgt : Int)) (hp : pc + 3 = pc') (h1 : ow_G X lay nL vf res o1 tgt lv st σ) (h2 : ow_G X lay nL vf res o2 pc' lv st σ) : ow_G X lay nL vf res (if x < 0 then o1 else o2) pc lv (.int x :: st) σ := by
  obtain ⟨p, l, e, R, s, m, args, below, meth, c, D, cy, A, q, t⟩ := X
  intro ho H locs ls hlv hP hD hS
  obtain ⟨hx, hb, hml, hown, hts, hK, hr, hlk, hA, hR, hro⟩ := F
  subst hp
  exact lv_if_lt hx hb hd ht (fun hc => h1 (by rw [if_pos hc] at ho; exact ho) H locs ls hlv hP hD hS) (fun hc => h2 (by rw [if_neg hc] at ho; exact ho) H locs ls hlv hP hD hS)
theorem g_icmp_lt (F : ow_F X own cc nL ret b L) {x y : Int32} {off : Int} {tgt : Nat} (hd : decode cc pc = .ok (.if_icmp .lt off, 3)) (ht : (pc : Int) + off = (tgt : Int)) (hp : pc + 3 = pc') (h1 : ow_G X lay nL vf res o1 tgt lv st σ) (h2 : ow_G X lay nL vf res o2 pc' lv st σ) : ow_G X lay nL vf res (if x < y then o1 else o2) pc lv (.int y :: .int x :: st) σ := by
  obtain ⟨p, l, e, R, s, m, args, below, meth, c, D, cy, A, q, t⟩ := X
  intro ho H locs ls hlv hP hD hS
  obtain ⟨hx, hb, hml, hown, hts, hK, hr, hlk, hA, hR, hro⟩ := F
  subst hp
  exact lv_icmp_lt hx hb hd ht (fun hc => h1 (by rw [if_pos hc] at ho; exact ho) H locs ls hlv hP hD hS) (fun hc => h2 (by rw [if_neg hc] at ho; exact ho) H locs ls hlv hP hD hS)
theorem g_if_ge (F : ow_F X own cc nL ret b L) {x : Int32} {off : Int} {tgt : Nat} (hd : decode cc pc = .ok (.ifCond .ge off, 3)) (ht : (pc : Int) + off = (tgt : Int)) (hp : pc + 3 = pc') (h1 : ow_G X lay nL vf res o1 tgt lv st σ) (h2 : ow_G X lay nL vf res o2 pc' lv st σ) : ow_G X lay nL vf res (if 0 ≤ x then o1 else o2) pc lv (.int x :: st) σ := by
  obtain ⟨p, l, e, R, s, m, args, below, meth, c, D, cy, A, q, t⟩ := X
  intro ho H locs ls hlv hP hD hS
  obtain ⟨hx, hb, hml, hown, hts, hK, hr, hlk, hA, hR, hro⟩ := F
  subst hp
  exact lv_if_ge hx hb hd ht (fun hc => h1 (by rw [if_pos hc] at ho; exact ho) H locs ls hlv hP hD hS) (fun hc => h2 (by rw [if_neg hc] at ho; exact ho) H locs ls hlv hP hD hS)
theorem g_icmp_ge (F : ow_F X own cc nL ret b L) {x y : Int32} {off : Int} {tgt : Nat} (hd : decode cc pc = .ok (.if_icmp .ge off, 3)) (ht : (pc : Int) + off = (tgt : Int)) (hp : pc + 3 = pc') (h1 : ow_G X lay nL vf res o1 tgt lv st σ) (h2 : ow_G X lay nL vf res o2 pc' lv st σ) : ow_G X lay nL vf res (if y ≤ x then o1 else o2) pc lv (.int y :: .int x :: st) σ := by
  obtain ⟨p, l, e, R, s, m, args, below, meth, c, D, cy, A, q, t⟩ := X
  intro ho H locs ls hlv hP hD hS
  obtain ⟨hx, hb, hml, hown, hts, hK, hr, hlk, hA, hR, hro⟩ := F
  subst hp
  exact lv_icmp_ge hx hb hd ht (fun hc => h1 (by rw [if_pos hc] at ho; exact ho) H locs ls hlv hP hD hS) (fun hc => h2 (by rw [if_neg hc] at ho; exact ho) H locs ls hlv hP hD hS)
theorem g_if_gt (F : ow_F X own cc nL ret b L) {x : Int32} {off : Int} {tgt : Nat} (hd : decode cc pc = .ok (.ifCond .gt off, 3)) (ht : (pc : Int) + off = (tgt : Int)) (hp : pc + 3 = pc') (h1 : ow_G X lay nL vf res o1 tgt lv st σ) (h2 : ow_G X lay nL vf res o2 pc' lv st σ) : ow_G X lay nL vf res (if 0 < x then o1 else o2) pc lv (.int x :: st) σ := by
  obtain ⟨p, l, e, R, s, m, args, below, meth, c, D, cy, A, q, t⟩ := X
  intro ho H locs ls hlv hP hD hS
  obtain ⟨hx, hb, hml, hown, hts, hK, hr, hlk, hA, hR, hro⟩ := F
  subst hp
  exact lv_if_gt hx hb hd ht (fun hc => h1 (by rw [if_pos hc] at ho; exact ho) H locs ls hlv hP hD hS) (fun hc => h2 (by rw [if_neg hc] at ho; exact ho) H locs ls hlv hP hD hS)
theorem g_icmp_gt (F : ow_F X own cc nL ret b L) {x y : Int32} {off : Int} {tgt : Nat} (hd : decode cc pc = .ok (.if_icmp .gt off, 3)) (ht : (pc : Int) + off = (tgt : Int)) (hp : pc + 3 = pc') (h1 : ow_G X lay nL vf res o1 tgt lv st σ) (h2 : ow_G X lay nL vf res o2 pc' lv st σ) : ow_G X lay nL vf res (if y < x then o1 else o2) pc lv (.int y :: .int x :: st) σ := by
  obtain ⟨p, l, e, R, s, m, args, below, meth, c, D, cy, A, q, t⟩ := X
  intro ho H locs ls hlv hP hD hS
  obtain ⟨hx, hb, hml, hown, hts, hK, hr, hlk, hA, hR, hro⟩ := F
  subst hp
  exact lv_icmp_gt hx hb hd ht (fun hc => h1 (by rw [if_pos hc] at ho; exact ho) H locs ls hlv hP hD hS) (fun hc => h2 (by rw [if_neg hc] at ho; exact ho) H locs ls hlv hP hD hS)
theorem g_if_le (F : ow_F X own cc nL ret b L) {x : Int32} {off : Int} {tgt : Nat} (hd : decode cc pc = .ok (.ifCond .le off, 3)) (ht : (pc : Int) + off = (tgt : Int)) (hp : pc + 3 = pc') (h1 : ow_G X lay nL vf res o1 tgt lv st σ) (h2 : ow_G X lay nL vf res o2 pc' lv st σ) : ow_G X lay nL vf res (if x ≤ 0 then o1 else o2) pc lv (.int x :: st) σ := by
  obtain ⟨p, l, e, R, s, m, args, below, meth, c, D, cy, A, q, t⟩ := X
  intro ho H locs ls hlv hP hD hS
  obtain ⟨hx, hb, hml, hown, hts, hK, hr, hlk, hA, hR, hro⟩ := F
  subst hp
  exact lv_if_le hx hb hd ht (fun hc => h1 (by rw [if_pos hc] at ho; exact ho) H locs ls hlv hP hD hS) (fun hc => h2 (by rw [if_neg hc] at ho; exact ho) H locs ls hlv hP hD hS)
theorem g_icmp_le (F : ow_F X own cc nL ret b L) {x y : Int32} {off : Int} {tgt : Nat} (hd : decode cc pc = .ok (.if_icmp .le off, 3)) (ht : (pc : Int) + off = (tgt : Int)) (hp : pc + 3 = pc') (h1 : ow_G X lay nL vf res o1 tgt lv st σ) (h2 : ow_G X lay nL vf res o2 pc' lv st σ) : ow_G X lay nL vf res (if x ≤ y then o1 else o2) pc lv (.int y :: .int x :: st) σ := by
  obtain ⟨p, l, e, R, s, m, args, below, meth, c, D, cy, A, q, t⟩ := X
  intro ho H locs ls hlv hP hD hS
  obtain ⟨hx, hb, hml, hown, hts, hK, hr, hlk, hA, hR, hro⟩ := F
  subst hp
  exact lv_icmp_le hx hb hd ht (fun hc => h1 (by rw [if_pos hc] at ho; exact ho) H locs ls hlv hP hD hS) (fun hc => h2 (by rw [if_neg hc] at ho; exact ho) H locs ls hlv hP hD hS)
theorem g_goto (F : ow_F X own cc nL ret b L) {off : Int} {tgt : Nat} (hd : decode cc pc = .ok (.goto off, 3)) (ht : (pc : Int) + off = (tgt : Int)) (h : ow_G X lay nL vf res o tgt lv st σ) : ow_G X lay nL vf res o pc lv st σ := by
  obtain ⟨p, l, e, R, s, m, args, below, meth, c, D, cy, A, q, t⟩ := X
  intro ho H locs ls hlv hP hD hS
  obtain ⟨hx, hb, hml, hown, hts, hK, hr, hlk, hA, hR, hro⟩ := F
  exact lv_goto hx hb hd ht (h ho H locs ls hlv hP hD hS)
theorem g_tab1 (F : ow_F X own cc nL ret b L) {dflt lo hi : Int} {offs : Array Int} {len : Nat} {x k : Int32} {off : Int} {tgt : Nat} (hd : decode cc pc = .ok (.tableswitch dflt lo hi offs, len)) (k1 : ¬ k.toInt < lo) (k2 : ¬ hi < k.toInt) (hoff : offs[(k.toInt - lo).toNat]? = some off) (ht : (pc : Int) + off = (tgt : Int)) (h1 : ow_G X lay nL vf res o1 tgt lv st σ) (h2 : x ≠ k → ow_G X lay nL vf res o2 pc lv (.int x :: st) σ) : ow_G X lay nL vf res (if x = k then o1 else o2) pc lv (.int x :: st) σ := by
  by_cases hk : x = k
  · rw [if_pos hk]
    subst hk
    revert h1
    intro h
    obtain ⟨p, l, e, R, s, m, args, below, meth, c, D, cy, A, q, t⟩ := X
    intro ho H locs ls hlv hP hD hS
    obtain ⟨hx, hb, hml, hown, hts, hK, hr, hlk, hA, hR, hro⟩ := F
    exact lv_tableIn hx hb hd k1 k2 hoff ht (h ho H locs ls hlv hP hD hS)
  · rw [if_neg hk]
    exact h2 hk
theorem g_tabd (F : ow_F X own cc nL ret b L) {dflt lo hi : Int} {offs : Array Int} {len : Nat} {x : Int32} {tgt : Nat} (hd : decode cc pc = .ok (.tableswitch dflt lo hi offs, len)) (hx0 : x.toInt < lo ∨ hi < x.toInt) (ht : (pc : Int) + dflt = (tgt : Int)) (h : ow_G X lay nL vf res o tgt lv st σ) : ow_G X lay nL vf res o pc lv (.int x :: st) σ := by
  obtain ⟨p, l, e, R, s, m, args, below, meth, c, D, cy, A, q, t⟩ := X
  intro ho H locs ls hlv hP hD hS
  obtain ⟨hx, hb, hml, hown, hts, hK, hr, hlk, hA, hR, hro⟩ := F
  exact lv_tableOut hx hb hd hx0 ht (h ho H locs ls hlv hP hD hS)
theorem g_look1 (F : ow_F X own cc nL ret b L) {dflt : Int} {ps : Array (Int × Int)} {len : Nat} {x k : Int32} {off : Int} {tgt : Nat} (hd : decode cc pc = .ok (.lookupswitch dflt ps, len)) (hps : (ps.toList.zip (ps.toList.drop 1)).all (fun (a, next) => a.1 < next.1) = true) (hoff : Op.lookupswitch.offset ps.toList dflt k.toInt = off) (ht : (pc : Int) + off = (tgt : Int)) (h1 : ow_G X lay nL vf res o1 tgt lv st σ) (h2 : x ≠ k → ow_G X lay nL vf res o2 pc lv (.int x :: st) σ) : ow_G X lay nL vf res (if x = k then o1 else o2) pc lv (.int x :: st) σ := by
  by_cases hk : x = k
  · rw [if_pos hk]
    subst hk
    revert h1
    intro h
    obtain ⟨p, l, e, R, s, m, args, below, meth, c, D, cy, A, q, t⟩ := X
    intro ho H locs ls hlv hP hD hS
    obtain ⟨hx, hb, hml, hown, hts, hK, hr, hlk, hA, hR, hro⟩ := F
    exact lv_lookup hx hb hd hps hoff ht (h ho H locs ls hlv hP hD hS)
  · rw [if_neg hk]
    exact h2 hk
theorem g_lookd (F : ow_F X own cc nL ret b L) {dflt : Int} {ps : Array (Int × Int)} {len : Nat} {x : Int32} {tgt : Nat} (hd : decode cc pc = .ok (.lookupswitch dflt ps, len)) (hps : (ps.toList.zip (ps.toList.drop 1)).all (fun (a, next) => a.1 < next.1) = true) (hoff : Op.lookupswitch.offset ps.toList dflt x.toInt = dflt) (ht : (pc : Int) + dflt = (tgt : Int)) (h : ow_G X lay nL vf res o tgt lv st σ) : ow_G X lay nL vf res o pc lv (.int x :: st) σ := by
  obtain ⟨p, l, e, R, s, m, args, below, meth, c, D, cy, A, q, t⟩ := X
  intro ho H locs ls hlv hP hD hS
  obtain ⟨hx, hb, hml, hown, hts, hK, hr, hlk, hA, hR, hro⟩ := F
  exact lv_lookup hx hb hd hps hoff ht (h ho H locs ls hlv hP hD hS)
/-- what the tables say of a class of the world -/
def ow_K (ci : Nat) (C : String) (T : u_T) (N : Nat) (ty0 : Nat → FieldType) : Prop := vwCl[ci]? = some (C, T, N) ∧ (∀ w ∈ u_ws C T N, w ∈ ow_U) ∧ (∀ k, k < N → parseFieldDescriptor (T k).2.2.1 = some (ty0 k)) ∧ ∀ a, a < N → ∀ b, b < N → a ≠ b → (T a).2.1 ≠ (T b).2.1
variable {ci N j k idx : Nat} {C nm ds : String} {T : u_T} {ty0 : Nat → FieldType} {fs : List (Option Nat)} {fin : Bool}
theorem g_getI (F : ow_F X own cc nL ret b L) (kc : ow_K ci C T N ty0) (hd : decode cc pc = .ok (.getfield idx, 3)) (hp : pc + 3 = pc') (hj : lay[j]? = some (.inr (ci, fs))) (hT : T k = (C, nm, ds, fin)) (hk : k < N) (hlink : Cond.fieldLink own idx C nm ds ∈ ow_U) (hf : fs[k]? = some none) (h : ow_G X lay nL vf res o pc' lv (.int (σ.1 j k) :: st) σ) : ow_G X lay nL vf res o pc lv (.ref (ow_q X j) :: st) σ := by
  obtain ⟨p, l, e, R, s, m, args, below, meth, c, D, cy, A, q, t⟩ := X
  intro ho H locs ls hlv hP hD hS
  obtain ⟨hx, hb, hml, hown, hts, hK, hr, hlk, hA, hR, hro⟩ := F
  subst hp
  obtain ⟨kc, kin, kty, knm⟩ := kc
  exact va_get (ci := ci) (v := .int (σ.1 j k)) (ref := C) hx hb hts kin hown hK hP j (ow_at hj) kc k hk (by rw [hT]; exact hts _ hlink) (fun x h9 => by rw [hT] at h9 ⊢; exact h9) (by simp [ow_fv, List.getElem?_mapIdx, hf]) hd (h ho H locs ls hlv hP hD hS)
theorem g_getR (F : ow_F X own cc nL ret b L) (kc : ow_K ci C T N ty0) (hd : decode cc pc = .ok (.getfield idx, 3)) (hp : pc + 3 = pc') (hj : lay[j]? = some (.inr (ci, fs))) (hT : T k = (C, nm, ds, fin)) (hk : k < N) (hlink : Cond.fieldLink own idx C nm ds ∈ ow_U) {r : Nat} (hf : fs[k]? = some (some r)) (h : ow_G X lay nL vf res o pc' lv (.ref (ow_q X r) :: st) σ) : ow_G X lay nL vf res o pc lv (.ref (ow_q X j) :: st) σ := by
  obtain ⟨p, l, e, R, s, m, args, below, meth, c, D, cy, A, q, t⟩ := X
  intro ho H locs ls hlv hP hD hS
  obtain ⟨hx, hb, hml, hown, hts, hK, hr, hlk, hA, hR, hro⟩ := F
  subst hp
  obtain ⟨kc, kin, kty, knm⟩ := kc
  exact va_get (ci := ci) (v := .ref (q r)) (ref := C) hx hb hts kin hown hK hP j (ow_at hj) kc k hk (by rw [hT]; exact hts _ hlink) (fun x h9 => by rw [hT] at h9 ⊢; exact h9) (by simp [ow_fv, List.getElem?_mapIdx, hf]) hd (h ho H locs ls hlv hP hD hS)
theorem g_putI (F : ow_F X own cc nL ret b L) (kc : ow_K ci C T N ty0) (hd : decode cc pc = .ok (.putfield idx, 3)) (hp : pc + 3 = pc') (hj : lay[j]? = some (.inr (ci, fs))) (hT : T k = (C, nm, ds, fin)) (hk : k < N) (hlink : Cond.fieldLink own idx C nm ds ∈ ow_U) {x : Int32} (hfin : fin = false) (hty : ty0 k = .int) (hf : fs[k]? = some none) (h : ow_G X lay nL vf res o pc' lv (st) (ow_setI σ j k x)) : ow_G X lay nL vf res o pc lv (.int x :: .ref (ow_q X j) :: st) σ := by
  obtain ⟨p, l, e, R, s, m, args, below, meth, c, D, cy, A, q, t⟩ := X
  intro ho H locs ls hlv hP hD hS
  obtain ⟨hx, hb, hml, hown, hts, hK, hr, hlk, hA, hR, hro⟩ := F
  subst hp
  obtain ⟨kc, kin, kty, knm⟩ := kc
  refine va_put (ci := ci) (v := .int x) (ty := .int) (ref := C) hx hb hts kin ty0 kty knm hown hK hP hD hS j (ow_at hj) kc k hk (by rw [hT]; exact hts _ hlink) (fun x h9 => by rw [hT] at h9 ⊢; exact h9) (by rw [hT]; exact hfin) (by rw [← hty]; exact kty k hk) rfl rfl (by simp; exact (List.getElem?_eq_some_iff.mp hf).1) hd (fun H1 locs1 hP1 hD1 hS1 => ?_)
  have hP1 : va_P D vwCl ((ow_w lay q cy σ).set j (q j, .inr (ci, (fs.mapIdx (ow_fv q (σ.1 j))).set k (.int x)))) H1 := hP1
  have hD1 : va_D A ((ow_w lay q cy σ).set j (q j, .inr (ci, (fs.mapIdx (ow_fv q (σ.1 j))).set k (.int x)))) := hD1
  rw [ow_setObj hj hf x] at hP1 hD1
  exact h ho H1 locs1 ls hlv hP1 hD1 hS1
theorem g_putZ (F : ow_F X own cc nL ret b L) (kc : ow_K ci C T N ty0) (hd : decode cc pc = .ok (.putfield idx, 3)) (hp : pc + 3 = pc') (hj : lay[j]? = some (.inr (ci, fs))) (hT : T k = (C, nm, ds, fin)) (hk : k < N) (hlink : Cond.fieldLink own idx C nm ds ∈ ow_U) {x : Int32} (hfin : fin = false) (hty : ty0 k = .boolean) (hf : fs[k]? = some none) (h : ow_G X lay nL vf res o pc' lv (st) (ow_setI σ j k x)) : ow_G X lay nL vf res (if ow_is01 x = true then o else none) pc lv (.int x :: .ref (ow_q X j) :: st) σ := by
  obtain ⟨p, l, e, R, s, m, args, below, meth, c, D, cy, A, q, t⟩ := X
  intro ho H locs ls hlv hP hD hS
  obtain ⟨hx, hb, hml, hown, hts, hK, hr, hlk, hA, hR, hro⟩ := F
  subst hp
  obtain ⟨kc, kin, kty, knm⟩ := kc
  obtain ⟨hc, ho⟩ := ow_ite ho
  refine va_put (ci := ci) (v := .int x) (ty := .boolean) (ref := C) hx hb hts kin ty0 kty knm hown hK hP hD hS j (ow_at hj) kc k hk (by rw [hT]; exact hts _ hlink) (fun x h9 => by rw [hT] at h9 ⊢; exact h9) (by rw [hT]; exact hfin) (by rw [← hty]; exact kty k hk) (ow_is01_n hc) (ow_is01_f hc) (by simp; exact (List.getElem?_eq_some_iff.mp hf).1) hd (fun H1 locs1 hP1 hD1 hS1 => ?_)
  have hP1 : va_P D vwCl ((ow_w lay q cy σ).set j (q j, .inr (ci, (fs.mapIdx (ow_fv q (σ.1 j))).set k (.int x)))) H1 := hP1
  have hD1 : va_D A ((ow_w lay q cy σ).set j (q j, .inr (ci, (fs.mapIdx (ow_fv q (σ.1 j))).set k (.int x)))) := hD1
  rw [ow_setObj hj hf x] at hP1 hD1
  exact h ho H1 locs1 ls hlv hP1 hD1 hS1
theorem g_iald (F : ow_F X own cc nL ret b L) {i : Int32} {n : Nat} (hd : decode cc pc = .ok (.iaload, 1)) (hp : pc + 1 = pc') (hj : lay[j]? = some (.inl (0, n))) (h : ow_G X lay nL vf res o pc' lv (.int (σ.1 j i.toNatClampNeg) :: st) σ) : ow_G X lay nL vf res (if ow_in i n = true then o else none) pc lv (.int i :: .ref (ow_q X j) :: st) σ := by
  obtain ⟨p, l, e, R, s, m, args, below, meth, c, D, cy, A, q, t⟩ := X
  intro ho H locs ls hlv hP hD hS
  obtain ⟨hx, hb, hml, hown, hts, hK, hr, hlk, hA, hR, hro⟩ := F
  subst hp
  obtain ⟨hc, ho⟩ := ow_ite ho
  exact va_iald hx hb hK hP j 0 (ow_at hj) rfl (ow_in_vp hc) hd (h ho H locs ls hlv hP hD hS)
theorem g_bald (F : ow_F X own cc nL ret b L) {i : Int32} {n : Nat} (hd : decode cc pc = .ok (.baload, 1)) (hp : pc + 1 = pc') (hj : lay[j]? = some (.inl (1, n))) (h : ow_G X lay nL vf res o pc' lv (.int (σ.1 j i.toNatClampNeg) :: st) σ) : ow_G X lay nL vf res (if ow_in i n = true then o else none) pc lv (.int i :: .ref (ow_q X j) :: st) σ := by
  obtain ⟨p, l, e, R, s, m, args, below, meth, c, D, cy, A, q, t⟩ := X
  intro ho H locs ls hlv hP hD hS
  obtain ⟨hx, hb, hml, hown, hts, hK, hr, hlk, hA, hR, hro⟩ := F
  subst hp
  obtain ⟨hc, ho⟩ := ow_ite ho
  exact va_bald hx hb hK hP j 1 (ow_at hj) rfl (ow_in_vp hc) hd (h ho H locs ls hlv hP hD hS)
theorem g_zald (F : ow_F X own cc nL ret b L) {i : Int32} {n : Nat} (hd : decode cc pc = .ok (.baload, 1)) (hp : pc + 1 = pc') (hj : lay[j]? = some (.inl (2, n))) (h : ow_G X lay nL vf res o pc' lv (.int (σ.1 j i.toNatClampNeg) :: st) σ) : ow_G X lay nL vf res (if ow_in i n = true then o else none) pc lv (.int i :: .ref (ow_q X j) :: st) σ := by
  obtain ⟨p, l, e, R, s, m, args, below, meth, c, D, cy, A, q, t⟩ := X
  intro ho H locs ls hlv hP hD hS
  obtain ⟨hx, hb, hml, hown, hts, hK, hr, hlk, hA, hR, hro⟩ := F
  subst hp
  obtain ⟨hc, ho⟩ := ow_ite ho
  exact va_zald hx hb hK hP j 2 (ow_at hj) rfl (ow_in_vp hc) hd (h ho H locs ls hlv hP hD hS)
theorem g_lald (F : ow_F X own cc nL ret b L) {i : Int32} {n : Nat} (hd : decode cc pc = .ok (.laload, 1)) (hp : pc + 1 = pc') (hj : lay[j]? = some (.inl (3, n))) (h : ow_G X lay nL vf res o pc' lv (.long (σ.2 j i.toNatClampNeg) :: st) σ) : ow_G X lay nL vf res (if ow_in i n = true then o else none) pc lv (.int i :: .ref (ow_q X j) :: st) σ := by
  obtain ⟨p, l, e, R, s, m, args, below, meth, c, D, cy, A, q, t⟩ := X
  intro ho H locs ls hlv hP hD hS
  obtain ⟨hx, hb, hml, hown, hts, hK, hr, hlk, hA, hR, hro⟩ := F
  subst hp
  obtain ⟨hc, ho⟩ := ow_ite ho
  exact va_lald hx hb hK hP j 3 (ow_at hj) rfl (ow_in_vp hc) hd (h ho H locs ls hlv hP hD hS)
theorem g_iast (F : ow_F X own cc nL ret b L) {i x : Int32} {n : Nat} (hd : decode cc pc = .ok (.iastore, 1)) (hp : pc + 1 = pc') (hj : lay[j]? = some (.inl (0, n))) (h : ow_G X lay nL vf res o pc' lv (st) (ow_setI σ j i.toNatClampNeg x)) : ow_G X lay nL vf res (if ow_in i n = true then o else none) pc lv (.int x :: .int i :: .ref (ow_q X j) :: st) σ := by
  obtain ⟨p, l, e, R, s, m, args, below, meth, c, D, cy, A, q, t⟩ := X
  intro ho H locs ls hlv hP hD hS
  obtain ⟨hx, hb, hml, hown, hts, hK, hr, hlk, hA, hR, hro⟩ := F
  subst hp
  obtain ⟨hc, ho⟩ := ow_ite ho
  refine va_iast hx hb hK hP hD hS j 0 (ow_at hj) rfl (ow_in_vp hc) hd (fun H1 locs1 hP1 hD1 hS1 => ?_)
  rw [ow_setArr0 hj] at hP1 hD1
  exact h ho H1 locs1 ls hlv hP1 hD1 hS1
theorem g_bast (F : ow_F X own cc nL ret b L) {i x : Int32} {n : Nat} (hd : decode cc pc = .ok (.bastore, 1)) (hp : pc + 1 = pc') (hj : lay[j]? = some (.inl (1, n))) (h : ow_G X lay nL vf res o pc' lv (st) (ow_setI σ j i.toNatClampNeg (vp_nar .byte x))) : ow_G X lay nL vf res (if ow_in i n = true then o else none) pc lv (.int x :: .int i :: .ref (ow_q X j) :: st) σ := by
  obtain ⟨p, l, e, R, s, m, args, below, meth, c, D, cy, A, q, t⟩ := X
  intro ho H locs ls hlv hP hD hS
  obtain ⟨hx, hb, hml, hown, hts, hK, hr, hlk, hA, hR, hro⟩ := F
  subst hp
  obtain ⟨hc, ho⟩ := ow_ite ho
  refine va_bast hx hb hK hP hD hS j 1 (ow_at hj) rfl (ow_in_vp hc) hd (fun H1 locs1 hP1 hD1 hS1 => ?_)
  rw [ow_setArr1 hj] at hP1 hD1
  exact h ho H1 locs1 ls hlv hP1 hD1 hS1
theorem g_zast (F : ow_F X own cc nL ret b L) {i x : Int32} {n : Nat} (hd : decode cc pc = .ok (.bastore, 1)) (hp : pc + 1 = pc') (hj : lay[j]? = some (.inl (2, n))) (h : ow_G X lay nL vf res o pc' lv (st) (ow_setI σ j i.toNatClampNeg (vp_nar .boolean x))) : ow_G X lay nL vf res (if ow_in i n = true then o else none) pc lv (.int x :: .int i :: .ref (ow_q X j) :: st) σ := by
  obtain ⟨p, l, e, R, s, m, args, below, meth, c, D, cy, A, q, t⟩ := X
  intro ho H locs ls hlv hP hD hS
  obtain ⟨hx, hb, hml, hown, hts, hK, hr, hlk, hA, hR, hro⟩ := F
  subst hp
  obtain ⟨hc, ho⟩ := ow_ite ho
  refine va_zast hx hb hK hP hD hS j 2 (ow_at hj) rfl (ow_in_vp hc) hd (fun H1 locs1 hP1 hD1 hS1 => ?_)
  rw [ow_setArr2 hj] at hP1 hD1
  exact h ho H1 locs1 ls hlv hP1 hD1 hS1
theorem g_last (F : ow_F X own cc nL ret b L) {i : Int32} {x : Int64} {n : Nat} (hd : decode cc pc = .ok (.lastore, 1)) (hp : pc + 1 = pc') (hj : lay[j]? = some (.inl (3, n))) (h : ow_G X lay nL vf res o pc' lv (st) (ow_setL σ j i.toNatClampNeg x)) : ow_G X lay nL vf res (if ow_in i n = true then o else none) pc lv (.long x :: .int i :: .ref (ow_q X j) :: st) σ := by
  obtain ⟨p, l, e, R, s, m, args, below, meth, c, D, cy, A, q, t⟩ := X
  intro ho H locs ls hlv hP hD hS
  obtain ⟨hx, hb, hml, hown, hts, hK, hr, hlk, hA, hR, hro⟩ := F
  subst hp
  obtain ⟨hc, ho⟩ := ow_ite ho
  refine va_last hx hb hK hP hD hS j 3 (ow_at hj) rfl (ow_in_vp hc) hd (fun H1 locs1 hP1 hD1 hS1 => ?_)
  rw [ow_setArr3 hj] at hP1 hD1
  exact h ho H1 locs1 ls hlv hP1 hD1 hS1
theorem g_alen0 (F : ow_F X own cc nL ret b L) {n : Nat} {v : Int32} (hd : decode cc pc = .ok (.arraylength, 1)) (hp : pc + 1 = pc') (hj : lay[j]? = some (.inl (0, n))) (hv : Int32.ofNat n = v) (h : ow_G X lay nL vf res o pc' lv (.int v :: st) σ) : ow_G X lay nL vf res o pc lv (.ref (ow_q X j) :: st) σ := by
  obtain ⟨p, l, e, R, s, m, args, below, meth, c, D, cy, A, q, t⟩ := X
  intro ho H locs ls hlv hP hD hS
  obtain ⟨hx, hb, hml, hown, hts, hK, hr, hlk, hA, hR, hro⟩ := F
  subst hp
  exact va_alen hx hb hK hP j 0 (x := (n, .inl (σ.1 j))) (ow_at hj) rfl hv hd (h ho H locs ls hlv hP hD hS)
theorem g_alen3 (F : ow_F X own cc nL ret b L) {n : Nat} {v : Int32} (hd : decode cc pc = .ok (.arraylength, 1)) (hp : pc + 1 = pc') (hj : lay[j]? = some (.inl (3, n))) (hv : Int32.ofNat n = v) (h : ow_G X lay nL vf res o pc' lv (.int v :: st) σ) : ow_G X lay nL vf res o pc lv (.ref (ow_q X j) :: st) σ := by
  obtain ⟨p, l, e, R, s, m, args, below, meth, c, D, cy, A, q, t⟩ := X
  intro ho H locs ls hlv hP hD hS
  obtain ⟨hx, hb, hml, hown, hts, hK, hr, hlk, hA, hR, hro⟩ := F
  subst hp
  exact va_alen hx hb hK hP j 3 (x := (n, .inr (.inl (σ.2 j)))) (ow_at hj) rfl hv hd (h ho H locs ls hlv hP hD hS)
theorem g_getsP (F : ow_F X own cc nL ret true L) (hd : decode cc pc = .ok (.getstatic idx, 3)) (hp : pc + 3 = pc') (hlink : Cond.fieldLink own idx "OwnHurt$Plan" "POWERS" "[I" ∈ ow_U) (h : ow_G X lay nL vf res o pc' lv (.ref (ow_t X 0) :: st) σ) : ow_G X lay nL vf res o pc lv st σ := by
  obtain ⟨p, l, e, R, s, m, args, below, meth, c, D, cy, A, q, t⟩ := X
  intro ho H locs ls hlv hP hD hS
  obtain ⟨hx, hb, hml, hown, hts, hK, hr, hlk, hA, hR, hro⟩ := F
  subst hp
  exact va_gets (C := "OwnHurt$Plan") hx hb (hro rfl).1 hS hown (hts _ hlink) (fun _ h9 => h9) hd (h ho H locs ls hlv hP hD hS)
theorem g_getsW (F : ow_F X own cc nL ret true L) (hd : decode cc pc = .ok (.getstatic idx, 3)) (hp : pc + 3 = pc') (hlink : Cond.fieldLink own idx "OwnHurt$Worlds" "TRUE_IN_WORD" "[J" ∈ ow_U) (h : ow_G X lay nL vf res o pc' lv (.ref (ow_t X 1) :: st) σ) : ow_G X lay nL vf res o pc lv st σ := by
  obtain ⟨p, l, e, R, s, m, args, below, meth, c, D, cy, A, q, t⟩ := X
  intro ho H locs ls hlv hP hD hS
  obtain ⟨hx, hb, hml, hown, hts, hK, hr, hlk, hA, hR, hro⟩ := F
  subst hp
  exact va_gets (C := "OwnHurt$Worlds") hx hb (hro rfl).2.2.1 hS hown (hts _ hlink) (fun _ h9 => h9) hd (h ho H locs ls hlv hP hD hS)
theorem g_aldP (F : ow_F X own cc nL ret true L) {i : Int32} (hd : decode cc pc = .ok (.iaload, 1)) (hp : pc + 1 = pc') (h : ow_G X lay nL vf res o pc' lv (.int (ow_pw i.toNatClampNeg) :: st) σ) : ow_G X lay nL vf res (if ow_in i 10 = true then o else none) pc lv (.int i :: .ref (ow_t X 0) :: st) σ := by
  obtain ⟨p, l, e, R, s, m, args, below, meth, c, D, cy, A, q, t⟩ := X
  intro ho H locs ls hlv hP hD hS
  obtain ⟨hx, hb, hml, hown, hts, hK, hr, hlk, hA, hR, hro⟩ := F
  subst hp
  obtain ⟨hc, ho⟩ := ow_ite ho
  exact va_ti hx hb (hro rfl).2.1 hS (ow_in_vp hc) rfl hd (h ho H locs ls hlv hP hD hS)
theorem g_aldW (F : ow_F X own cc nL ret true L) {i : Int32} (hd : decode cc pc = .ok (.laload, 1)) (hp : pc + 1 = pc') (h : ow_G X lay nL vf res o pc' lv (.long (ow_tw i.toNatClampNeg) :: st) σ) : ow_G X lay nL vf res (if ow_in i 6 = true then o else none) pc lv (.int i :: .ref (ow_t X 1) :: st) σ := by
  obtain ⟨p, l, e, R, s, m, args, below, meth, c, D, cy, A, q, t⟩ := X
  intro ho H locs ls hlv hP hD hS
  obtain ⟨hx, hb, hml, hown, hts, hK, hr, hlk, hA, hR, hro⟩ := F
  subst hp
  obtain ⟨hc, ho⟩ := ow_ite ho
  exact va_tl hx hb (hro rfl).2.2.2.1 hS (ow_in_vp hc) rfl hd (h ho H locs ls hlv hP hD hS)
theorem g_alenP (F : ow_F X own cc nL ret true L) {v : Int32} (hd : decode cc pc = .ok (.arraylength, 1)) (hp : pc + 1 = pc') (hv : Int32.ofNat 10 = v) (h : ow_G X lay nL vf res o pc' lv (.int v :: st) σ) : ow_G X lay nL vf res o pc lv (.ref (ow_t X 0) :: st) σ := by
  obtain ⟨p, l, e, R, s, m, args, below, meth, c, D, cy, A, q, t⟩ := X
  intro ho H locs ls hlv hP hD hS
  obtain ⟨hx, hb, hml, hown, hts, hK, hr, hlk, hA, hR, hro⟩ := F
  subst hp
  exact va_tlen hx hb (hro rfl).2.1 hS hv hd (h ho H locs ls hlv hP hD hS)
theorem g_getTv (F : ow_F X own cc nL ret true L)  (hd : decode cc pc = .ok (.getfield idx, 3)) (hp : pc + 3 = pc') (hlink : Cond.fieldLink own idx "java/lang/String" "value" "[B" ∈ ow_U) (h : ow_G X lay nL vf res o pc' lv (.ref (ow_t X 3) :: st) σ) : ow_G X lay nL vf res o pc lv (.ref (ow_t X 2) :: st) σ := by
  obtain ⟨p, l, e, R, s, m, args, below, meth, c, D, cy, A, q, t⟩ := X
  intro ho H locs ls hlv hP hD hS
  obtain ⟨hx, hb, hml, hown, hts, hK, hr, hlk, hA, hR, hro⟩ := F
  subst hp
  exact vk_getf (o := "java/lang/String") hx hb (hro rfl).2.2.2.2.2.2.1 hS hown (hts _ hlink) (fun _ h9 => h9) hd (h ho H locs ls hlv hP hD hS)
theorem g_getTc (F : ow_F X own cc nL ret true L)  (hd : decode cc pc = .ok (.getfield idx, 3)) (hp : pc + 3 = pc') (hlink : Cond.fieldLink own idx "java/lang/String" "coder" "B" ∈ ow_U) (h : ow_G X lay nL vf res o pc' lv (.int 0 :: st) σ) : ow_G X lay nL vf res o pc lv (.ref (ow_t X 2) :: st) σ := by
  obtain ⟨p, l, e, R, s, m, args, below, meth, c, D, cy, A, q, t⟩ := X
  intro ho H locs ls hlv hP hD hS
  obtain ⟨hx, hb, hml, hown, hts, hK, hr, hlk, hA, hR, hro⟩ := F
  subst hp
  exact vk_getf (o := "java/lang/String") hx hb (hro rfl).2.2.2.2.2.2.2.1 hS hown (hts _ hlink) (fun _ h9 => h9) hd (h ho H locs ls hlv hP hD hS)
theorem g_getsC (F : ow_F X own cc nL ret true L)  (hd : decode cc pc = .ok (.getstatic idx, 3)) (hp : pc + 3 = pc') (hlink : Cond.fieldLink own idx "java/lang/String" "COMPACT_STRINGS" "Z" ∈ ow_U) (h : ow_G X lay nL vf res o pc' lv (.int 1 :: st) σ) : ow_G X lay nL vf res o pc lv (st) σ := by
  obtain ⟨p, l, e, R, s, m, args, below, meth, c, D, cy, A, q, t⟩ := X
  intro ho H locs ls hlv hP hD hS
  obtain ⟨hx, hb, hml, hown, hts, hK, hr, hlk, hA, hR, hro⟩ := F
  subst hp
  exact va_gets (C := "java/lang/String") hx hb (hro rfl).2.2.2.2.2.2.2.2.2 hS hown (hts _ hlink) (fun _ h9 => h9) hd (h ho H locs ls hlv hP hD hS)
theorem g_aldT (F : ow_F X own cc nL ret true L) {i : Int32} (hd : decode cc pc = .ok (.baload, 1)) (hp : pc + 1 = pc')  (h : ow_G X lay nL vf res o pc' lv (.int (ow_ab i.toNatClampNeg) :: st) σ) : ow_G X lay nL vf res (if ow_in i 19 = true then o else none) pc lv (.int i :: .ref (ow_t X 3) :: st) σ := by
  obtain ⟨p, l, e, R, s, m, args, below, meth, c, D, cy, A, q, t⟩ := X
  intro ho H locs ls hlv hP hD hS
  obtain ⟨hx, hb, hml, hown, hts, hK, hr, hlk, hA, hR, hro⟩ := F
  subst hp
  obtain ⟨hc, ho⟩ := ow_ite ho
  exact va_tb hx hb (hro rfl).2.2.2.2.2.2.2.2.1 hS (ow_in_vp hc) rfl hd (h ho H locs ls hlv hP hD hS)
theorem g_alenT (F : ow_F X own cc nL ret true L) {v : Int32} (hd : decode cc pc = .ok (.arraylength, 1)) (hp : pc + 1 = pc') (hv : Int32.ofNat 19 = v) (h : ow_G X lay nL vf res o pc' lv (.int v :: st) σ) : ow_G X lay nL vf res o pc lv (.ref (ow_t X 3) :: st) σ := by
  obtain ⟨p, l, e, R, s, m, args, below, meth, c, D, cy, A, q, t⟩ := X
  intro ho H locs ls hlv hP hD hS
  obtain ⟨hx, hb, hml, hown, hts, hK, hr, hlk, hA, hR, hro⟩ := F
  subst hp
  exact va_tlen hx hb (hro rfl).2.2.2.2.2.2.2.2.1 hS hv hd (h ho H locs ls hlv hP hD hS)
theorem g_ldcS (F : ow_F X RX6 cc nL ret true L) (hd : decode cc pc = .ok (.ldc 120, 2)) (hp : pc + 2 = pc') (h : ow_G X lay nL vf res o pc' lv (.ref (ow_t X 2) :: st) σ) : ow_G X lay nL vf res o pc lv st σ := by
  obtain ⟨p, l, e, R, s, m, args, below, meth, c, D, cy, A, q, t⟩ := X
  intro ho H locs ls hlv hP hD hS
  obtain ⟨hx, hb, hml, hown, hts, hK, hr, hlk, hA, hR, hro⟩ := F
  subst hp
  exact va_ldcS hx hb hown (hro rfl).2.2.2.2.1 hd (h ho H locs ls hlv hP hD hS)
end OWR
def ow_vi : (Nat → Nat) → Int32 → Option Value := fun _ r => some (.int r)
def ow_vl : (Nat → Nat) → Int64 → Option Value := fun _ r => some (.long r)
def ow_vv : (Nat → Nat) → Unit → Option Value := fun _ _ => none
def ow_vr (j : Nat) : (Nat → Nat) → Unit → Option Value := fun q _ => some (.ref (q j))
section OWE
variable {X : ow_X} {lay : List ow_C} {nL : Nat} {pc : Nat} {lv : List (Option Value)} {σ : ow_S} {own : String} {cc : ByteArray} {b : Bool} {L : Nat}
theorem g_ireturn {res : Int32 × ow_S} (F : ow_F X own cc nL (some .int) b L) {r : Int32} (hd : decode cc pc = .ok (.ireturn, 1)) : ow_G X lay nL ow_vi res (some (r, σ)) pc lv [.int r] σ := by
  obtain ⟨p, l, e, R, s, m, args, below, meth, c, D, cy, A, q, t⟩ := X
  intro ho H locs ls hlv hP hD hS
  obtain ⟨hx, hb, hml, hown, hts, hK, hr, hlk, hA, hR, hro⟩ := F
  cases ho
  exact W.iret hx hb hr (fun t ht hW => ⟨rfl, by rw [ht]; exact hP, hS.F ht⟩) hS.2.2 hd
theorem g_zreturn {res : Int32 × ow_S} (F : ow_F X own cc nL (some .boolean) b L) {r : Int32} (hd : decode cc pc = .ok (.ireturn, 1)) : ow_G X lay nL ow_vi res (if ow_is01 r = true then some (r, σ) else none) pc lv [.int r] σ := by
  obtain ⟨p, l, e, R, s, m, args, below, meth, c, D, cy, A, q, t⟩ := X
  intro ho H locs ls hlv hP hD hS
  obtain ⟨hx, hb, hml, hown, hts, hK, hr, hlk, hA, hR, hro⟩ := F
  obtain ⟨hc, ho⟩ := ow_ite ho
  cases ho
  exact W.zret hx hb hr (ow_is01_n hc) (fun t ht hW => ⟨rfl, by rw [ht]; exact hP, hS.F ht⟩) hS.2.2 hd
theorem g_breturn {res : Int32 × ow_S} (F : ow_F X own cc nL (some .byte) b L) {r : Int32} (hd : decode cc pc = .ok (.ireturn, 1)) : ow_G X lay nL ow_vi res (if ow_isb r = true then some (r, σ) else none) pc lv [.int r] σ := by
  obtain ⟨p, l, e, R, s, m, args, below, meth, c, D, cy, A, q, t⟩ := X
  intro ho H locs ls hlv hP hD hS
  obtain ⟨hx, hb, hml, hown, hts, hK, hr, hlk, hA, hR, hro⟩ := F
  obtain ⟨hc, ho⟩ := ow_ite ho
  cases ho
  exact W.zret hx hb hr (ow_isb_n hc) (fun t ht hW => ⟨rfl, by rw [ht]; exact hP, hS.F ht⟩) hS.2.2 hd
theorem g_lreturn {res : Int64 × ow_S} (F : ow_F X own cc nL (some .long) b L) {r : Int64} (hd : decode cc pc = .ok (.lreturn, 1)) : ow_G X lay nL ow_vl res (some (r, σ)) pc lv [.long r] σ := by
  obtain ⟨p, l, e, R, s, m, args, below, meth, c, D, cy, A, q, t⟩ := X
  intro ho H locs ls hlv hP hD hS
  obtain ⟨hx, hb, hml, hown, hts, hK, hr, hlk, hA, hR, hro⟩ := F
  cases ho
  exact W.lret hx hb hr (fun t ht hW => ⟨rfl, by rw [ht]; exact hP, hS.F ht⟩) hS.2.2 hd
theorem g_return {res : Unit × ow_S} (F : ow_F X own cc nL none b L) (hd : decode cc pc = .ok (.return_, 1)) : ow_G X lay nL ow_vv res (some ((), σ)) pc lv [] σ := by
  obtain ⟨p, l, e, R, s, m, args, below, meth, c, D, cy, A, q, t⟩ := X
  intro ho H locs ls hlv hP hD hS
  obtain ⟨hx, hb, hml, hown, hts, hK, hr, hlk, hA, hR, hro⟩ := F
  cases ho
  exact W.vret hx hb hr (fun t ht hW => ⟨rfl, by rw [ht]; exact hP, hS.F ht⟩) hS.2.2 hd
theorem g_areturn {res : Unit × ow_S} {rt : String} {j : Nat} (F : ow_F X own cc nL (some (.object rt)) b L) (hd : decode cc pc = .ok (.areturn, 1)) : ow_G X lay nL (ow_vr j) res (some ((), σ)) pc lv [.ref (ow_q X j)] σ := by
  obtain ⟨p, l, e, R, s, m, args, below, meth, c, D, cy, A, q, t⟩ := X
  intro ho H locs ls hlv hP hD hS
  obtain ⟨hx, hb, hml, hown, hts, hK, hr, hlk, hA, hR, hro⟩ := F
  cases ho
  exact W.aret hx hb hr (Or.inl ⟨_, rfl⟩) (Or.inr ⟨_, rfl⟩) (fun t ht hW => ⟨rfl, by rw [ht]; exact hP, hS.F ht⟩) hS.2.2 hd
end OWE
/-- behind a call: the object's own cells by the new memory -/
theorem ow_back {ρ : Type} {vf : (Nat → Nat) → ρ → Option Value} {lay : List ow_C} {q : Nat → Nat} {cy : Nat → ClassId} {D : va_G} {res : ρ × ow_S} {p : Program} {l : Launch} {e : Env} {R : Room} {s : State} {m : MethodId} {args : Array Value} {below : List Frame} {meth : Method} {c : Code} {H : Heap} {locs : List Loc} {Q : State → Prop} {pc : Nat} {ls : Array Slot} {rest st0 : List Value} {a : Array Value} {A0 A1 : Nat → Prop} {H0 : Heap}
    (hr : va_Run p l e R s m args below meth c H locs 0 0 0 0 (F0 m pc ls st0) rest (ow_Q vf lay q cy D A1 res a) A1) (hS : va_S A0 H0 H locs) (hA : ∀ q, A1 q → A0 q)
    (kk : ∀ (H1 : Heap) (locs1 : List Loc), va_P D vwCl (ow_w lay q cy res.2) H1 → (∀ x : Nat, x < H.size → ¬ A1 x → H1[x]? = H[x]?) → H.size ≤ H1.size → va_S A0 H0 H1 locs1 → W p l e R s m args below meth c H1 locs1 0 0 Q (F0 m (pc + 3) ls ((vf q res.1).toList ++ rest))) : W p l e R s m args below meth c H locs 0 0 Q (F0 m pc ls st0) := by
  intro T hT X
  obtain ⟨v, st₀, t, T', L, h0, X', hL, e1, e2, ⟨hv, hP, hz, hk⟩, st⟩ := hr T hT X
  cases hv
  rw [h0] at hz hk
  obtain ⟨t2, a1, b1⟩ := kk T'.heap (locs ++ L) (by rw [e1]; exact hP) (fun x h1 h2 => by rw [e1]; exact hk x h1 h2) (by rw [e1]; exact hz)
    ⟨Nat.le_trans hS.1 (by rw [e1]; exact hz), fun x h1 h2 => by rw [e1, hk x (Nat.lt_of_lt_of_le h1 hS.1) (fun z => h2 (hA x z))]; exact hS.2.1 x h1 h2, fun x hx => by
      rcases List.mem_append.mp hx with h | h
      · exact hS.2.2 x h
      · exact hA _ (hL x h)⟩ T' rfl X'
  exact ⟨t2, st t2 a1, b1⟩
theorem ow_blind {lay : List ow_C} {b : Bool} {q t : Nat → Nat} {cy : Nat → ClassId} {D : va_G} {σ : ow_S} {sz : Nat} {av : List Value} : FrameBlind (va_Pc av (ow_pre lay b q t cy D σ sz)) := by
  intro a U g mk h
  obtain ⟨h0, h1, h2, h3, h4, h5⟩ := h
  exact ⟨h0, h1, h2, va_K.moved (u := U) (U := U.calling g mk a) (Vm.Alike.refl U.vm) h3, h4, fun hb => (h5 hb).calling g mk a⟩
theorem ow_preat {lay : List ow_C} {b : Bool} {q t : Nat → Nat} {cy : Nat → ClassId} {D : va_G} {σ : ow_S} {s U : State} {H : Heap} {locs : List Loc} {A : Nat → Prop} (hU : U.heap = H) (hW : s.WarmedH U.vm) (hP : va_P D vwCl (ow_w lay q cy σ) H) (hD : va_D A (ow_w lay q cy σ)) (hS : va_S A s.heap H locs) (hK : va_K D vwCl (ow_ty cy) s) (hA : ∀ a : Nat, s.heap.size ≤ a → A a) (hro : b = true → ow_RO t A s s.heap) : ow_pre lay b q t cy D σ H.size U := by
  have hsub : ∀ x, va_A (ow_w lay q cy σ) H.size x → A x := by
    intro x h
    rcases h with ⟨k, y, h⟩ | h
    · exact hD.2 k _ h
    · exact hA x (Nat.le_trans hS.1 h)
  refine ⟨by rw [hU], by rw [hU]; exact hP, va_K.moved hW.alike hK, hD.weaken (fun _ _ _ _ => trivial), fun hb => ?_⟩
  rw [hU]
  exact ((hro hb).kept hS.2.1).warm hW |>.narrow hsub
section OWC
variable {ρ ρ' : Type} {X : ow_X} {lay : List ow_C} {nL : Nat} {vf : (Nat → Nat) → ρ → Option Value} {res : ρ × ow_S} {pc pc' : Nat} {lv : List (Option Value)} {st0 rest As : List Value} {σ : ow_S}
variable {own : String} {cc : ByteArray} {ret : Option FieldType} {b : Bool} {L : Nat}
variable {vf' : (Nat → Nat) → ρ' → Option Value} {f : ow_S → Option (ρ' × ow_S)} {k : ρ' → ow_S → Option (ρ × ow_S)} {y : MethodName} {bytes : ByteArray} {maxL : Nat} {ret' : Option FieldType} {av : (Nat → Nat) → (Nat → Nat) → List Value} {Lc n idx j ci N : Nat} {C : String} {T : u_T} {fs : List (Option Nat)}
/-- what a program decides of a callee's name -/
def ow_yd (y : MethodName) (C : String) (n : Nat) : Prop := y.cls = C ∧ y.cls ≠ "java/lang/invoke/MethodHandle" ∧ y.cls ≠ "java/lang/invoke/VarHandle" ∧ (parseMethodDescriptor y.desc).map (fun d => d.parameters.length) = some n
theorem ow_good : GoodIn ow_U ow_U := fun w hw => ⟨hw, good_of_word (List.mem_filter.mp hw).2⟩
/-- a callee that is an object's method; a static one: what the tables have of it -/
def ow_YV (C : String) (y : MethodName) (n : Nat) (bytes : ByteArray) (maxL : Nat) (ret' : Option FieldType) : Prop := ow_yd y C n ∧ Cond.instanceMethod y ∈ ow_U ∧ Cond.selects C y y ∈ ow_U ∧ Cond.initialized C ∈ ow_U ∧ Cond.code y bytes maxL ret' ∈ ow_U ∧ maxL ≤ 45
def ow_YS (y : MethodName) (n : Nat) (bytes : ByteArray) (maxL : Nat) (ret' : Option FieldType) : Prop := ow_yd y y.cls n ∧ Cond.static y ∈ ow_U ∧ Cond.initialized y.cls ∈ ow_U ∧ Cond.code y bytes maxL ret' ∈ ow_U ∧ maxL ≤ 45
theorem ow_gd {ws : List Cond} (h : ∀ w ∈ ws, w ∈ ow_U) : GoodIn ow_U ws := fun w hw => ow_good w (h w hw)
theorem ow_gV {own C : String} {idx n maxL : Nat} {y : MethodName} {bytes : ByteArray} {ret' : Option FieldType} (hY : ow_YV C y n bytes maxL ret') (hl : Cond.methodLink own idx y ∈ ow_U) : GoodIn ow_U (wsV own idx C y (Cond.code y bytes maxL ret' :: ow_U)) := by
  obtain ⟨-, h1, h2, h3, h4, -⟩ := hY
  refine ow_gd (fun w hw => ?_)
  simp only [wsV, List.mem_append, List.mem_cons, List.not_mem_nil, or_false] at hw
  rcases hw with (rfl | rfl | rfl | rfl) | rfl | h
  · exact hl
  · exact h1
  · exact h2
  · exact h3
  · exact h4
  · exact h
theorem ow_gS {own : String} {idx n maxL : Nat} {y : MethodName} {bytes : ByteArray} {ret' : Option FieldType} (hY : ow_YS y n bytes maxL ret') (hl : Cond.methodLink own idx y ∈ ow_U) : GoodIn ow_U (va_wsS own idx y (Cond.code y bytes maxL ret' :: ow_U)) := by
  obtain ⟨-, h1, h2, h3, -⟩ := hY
  refine ow_gd (fun w hw => ?_)
  simp only [va_wsS, List.mem_append, List.mem_cons, List.not_mem_nil, or_false] at hw
  rcases hw with (rfl | rfl | rfl) | rfl | h
  · exact hl
  · exact h1
  · exact h2
  · exact h3
  · exact h
theorem ow_rm_ok (hL : Lc < L) (hmL : maxL ≤ 45) : (ow_rm Lc).frames + 1 ≤ (ow_rm L).frames ∧ 8 + (maxL + 11) + (ow_rm Lc).locals ≤ (ow_rm L).locals := by
  simp only [ow_rm]
  omega
theorem g_callV (F : ow_F X own cc nL ret b L) (hM : ow_M lay b Lc y bytes maxL ret' av vf' f) (hY : ow_YV C y n bytes maxL ret') (hlink : Cond.methodLink own idx y ∈ ow_U) (hL : Lc < L) (hd : decode cc pc = .ok (.invokevirtual idx, 3)) (hp : pc + 3 = pc') (hj : lay[j]? = some (.inr (ci, fs))) (hc : vwCl[ci]? = some (C, T, N)) (hav : av (ow_q X) (ow_t X) = .ref (ow_q X j) :: As) (hn : As.length = n) (hst : st0 = As.reverse ++ .ref (ow_q X j) :: rest) (hroom : (rest.map fun v => v.category).sum ≤ 8)
    (h : ∀ r σ', ow_G X lay nL vf res (k r σ') pc' lv ((vf' (ow_q X) r).toList ++ rest) σ') : ow_G X lay nL vf res (ow_bd (f σ) k) pc lv st0 σ := by
  obtain ⟨p, l, e, R, s, m, args, below, meth, c, D, cy, A, q, t⟩ := X
  intro ho H locs ls hlv hP hD hS
  obtain ⟨hx, hb, hml, hown, hts, hK, hr, hlk, hA, hR, hro⟩ := F
  subst hp
  subst hst
  subst hR
  obtain ⟨⟨r, σ'⟩, hf, hk⟩ := Option.bind_eq_some_iff.mp ho
  have hsub : ∀ x, va_A (ow_w lay q cy σ) H.size x → A x := by
    intro x h
    rcases h with ⟨k, y, h⟩ | h
    · exact hD.2 k _ h
    · exact hA x (Nat.le_trans hS.1 h)
  have hM' := hM l D cy q t H.size σ (r, σ') hf
  have hav' : av q t = .ref (q j) :: As := hav
  rw [hav'] at hM'
  refine ow_back (res := (r, σ')) (va_runV (As := As) (rest := rest) (b := q j) (C := C) ⟨hx, hb, hml, hown, hts⟩ hM' (cwV n hts (ow_gV hY hlink) rfl rfl rfl hY.1 (ow_rm_ok hL hY.2.2.2.2.2)) ⟨ow_blind, va_recv hK hP hc (ow_at hj), fun U hU hW => ⟨rfl, ow_preat hU hW hP hD hS hK hA hro⟩⟩ rfl hn hlv.1 rfl (lv_room hroom) hd ⟨Nat.zero_le _, Nat.zero_le _⟩) hS hsub (fun H1 locs1 hP1 _ _ hS1 => ?_)
  exact h r σ' hk H1 locs1 ls hlv hP1 (ow_D hD) hS1
theorem g_callT (F : ow_F X own cc nL ret true L) (hM : ow_M lay true Lc y bytes maxL ret' av vf' f) (hY : ow_YV "java/lang/String" y n bytes maxL ret') (hlink : Cond.methodLink own idx y ∈ ow_U) (hL : Lc < L) (hd : decode cc pc = .ok (.invokevirtual idx, 3)) (hp : pc + 3 = pc') (hav : av (ow_q X) (ow_t X) = .ref (ow_t X 2) :: As) (hn : As.length = n) (hst : st0 = As.reverse ++ .ref (ow_t X 2) :: rest) (hroom : (rest.map fun v => v.category).sum ≤ 8)
    (h : ∀ r σ', ow_G X lay nL vf res (k r σ') pc' lv ((vf' (ow_q X) r).toList ++ rest) σ') : ow_G X lay nL vf res (ow_bd (f σ) k) pc lv st0 σ := by
  obtain ⟨p, l, e, R, s, m, args, below, meth, c, D, cy, A, q, t⟩ := X
  intro ho H locs ls hlv hP hD hS
  obtain ⟨hx, hb, hml, hown, hts, hK, hr, hlk, hA, hR, hro⟩ := F
  subst hp
  subst hst
  subst hR
  obtain ⟨⟨r, σ'⟩, hf, hk⟩ := Option.bind_eq_some_iff.mp ho
  have hsub : ∀ x, va_A (ow_w lay q cy σ) H.size x → A x := by
    intro x h
    rcases h with ⟨k, y, h⟩ | h
    · exact hD.2 k _ h
    · exact hA x (Nat.le_trans hS.1 h)
  have hM' := hM l D cy q t H.size σ (r, σ') hf
  have hav' : av q t = .ref (t 2) :: As := hav
  rw [hav'] at hM'
  refine ow_back (res := (r, σ')) (va_runV (As := As) (rest := rest) (b := t 2) (C := "java/lang/String") ⟨hx, hb, hml, hown, hts⟩ hM' (cwV n hts (ow_gV hY hlink) rfl rfl rfl hY.1 (ow_rm_ok hL hY.2.2.2.2.2)) ⟨ow_blind, va_Orecv (hro rfl).2.2.2.2.2.1 hS, fun U hU hW => ⟨rfl, ow_preat hU hW hP hD hS hK hA hro⟩⟩ rfl hn hlv.1 rfl (lv_room hroom) hd ⟨Nat.zero_le _, Nat.zero_le _⟩) hS hsub (fun H1 locs1 hP1 _ _ hS1 => ?_)
  exact h r σ' hk H1 locs1 ls hlv hP1 (ow_D hD) hS1
theorem g_callS (F : ow_F X own cc nL ret b L) (hM : ow_M lay b Lc y bytes maxL ret' av vf' f) (hY : ow_YS y n bytes maxL ret') (hlink : Cond.methodLink own idx y ∈ ow_U) (hL : Lc < L) (hd : decode cc pc = .ok (.invokestatic idx, 3)) (hp : pc + 3 = pc') (hav : av (ow_q X) (ow_t X) = As) (hn : As.length = n) (hst : st0 = As.reverse ++ rest) (hroom : (rest.map fun v => v.category).sum ≤ 8)
    (h : ∀ r σ', ow_G X lay nL vf res (k r σ') pc' lv ((vf' (ow_q X) r).toList ++ rest) σ') : ow_G X lay nL vf res (ow_bd (f σ) k) pc lv st0 σ := by
  obtain ⟨p, l, e, R, s, m, args, below, meth, c, D, cy, A, q, t⟩ := X
  intro ho H locs ls hlv hP hD hS
  obtain ⟨hx, hb, hml, hown, hts, hK, hr, hlk, hA, hR, hro⟩ := F
  subst hp
  subst hst
  subst hR
  obtain ⟨⟨r, σ'⟩, hf, hk⟩ := Option.bind_eq_some_iff.mp ho
  have hsub : ∀ x, va_A (ow_w lay q cy σ) H.size x → A x := by
    intro x h
    rcases h with ⟨k, y, h⟩ | h
    · exact hD.2 k _ h
    · exact hA x (Nat.le_trans hS.1 h)
  have hM' := hM l D cy q t H.size σ (r, σ') hf
  have hav' : av q t = As := hav
  rw [hav'] at hM'
  refine ow_back (res := (r, σ')) (va_runS (As := As) (rest := rest) ⟨hx, hb, hml, hown, hts⟩ hM' (va_cwS n hts (ow_gS hY hlink) rfl rfl rfl ⟨hY.1.2.1, hY.1.2.2.1, hY.1.2.2.2⟩ (ow_rm_ok hL hY.2.2.2.2)) ⟨ow_blind, fun U hU hW => ⟨rfl, ow_preat hU hW hP hD hS hK hA hro⟩⟩ rfl hn hlv.1 rfl (lv_room hroom) hd ⟨Nat.zero_le _, Nat.zero_le _⟩) hS hsub (fun H1 locs1 hP1 _ _ hS1 => ?_)
  exact h r σ' hk H1 locs1 ls hlv hP1 (ow_D hD) hS1
theorem g_callVi {f : ow_S → Option (Int32 × ow_S)} {k : Int32 → ow_S → Option (ρ × ow_S)} (F : ow_F X own cc nL ret b L) (hM : ow_M lay b Lc y bytes maxL ret' av ow_vi f) (hY : ow_YV C y n bytes maxL ret') (hlink : Cond.methodLink own idx y ∈ ow_U) (hL : Lc < L) (hd : decode cc pc = .ok (.invokevirtual idx, 3)) (hp : pc + 3 = pc') (hj : lay[j]? = some (.inr (ci, fs))) (hc : vwCl[ci]? = some (C, T, N)) (hav : av (ow_q X) (ow_t X) = .ref (ow_q X j) :: As) (hn : As.length = n) (hst : st0 = As.reverse ++ .ref (ow_q X j) :: rest) (hroom : (rest.map fun v => v.category).sum ≤ 8)
    (h : ∀ r σ', ow_G X lay nL vf res (k r σ') pc' lv (.int r :: rest) σ') : ow_G X lay nL vf res (ow_bd (f σ) k) pc lv st0 σ := g_callV F hM hY hlink hL hd hp hj hc hav hn hst hroom h
theorem g_callVl {f : ow_S → Option (Int64 × ow_S)} {k : Int64 → ow_S → Option (ρ × ow_S)} (F : ow_F X own cc nL ret b L) (hM : ow_M lay b Lc y bytes maxL ret' av ow_vl f) (hY : ow_YV C y n bytes maxL ret') (hlink : Cond.methodLink own idx y ∈ ow_U) (hL : Lc < L) (hd : decode cc pc = .ok (.invokevirtual idx, 3)) (hp : pc + 3 = pc') (hj : lay[j]? = some (.inr (ci, fs))) (hc : vwCl[ci]? = some (C, T, N)) (hav : av (ow_q X) (ow_t X) = .ref (ow_q X j) :: As) (hn : As.length = n) (hst : st0 = As.reverse ++ .ref (ow_q X j) :: rest) (hroom : (rest.map fun v => v.category).sum ≤ 8)
    (h : ∀ r σ', ow_G X lay nL vf res (k r σ') pc' lv (.long r :: rest) σ') : ow_G X lay nL vf res (ow_bd (f σ) k) pc lv st0 σ := g_callV F hM hY hlink hL hd hp hj hc hav hn hst hroom h
theorem g_callVv {f : ow_S → Option (Unit × ow_S)} {k : Unit → ow_S → Option (ρ × ow_S)} (F : ow_F X own cc nL ret b L) (hM : ow_M lay b Lc y bytes maxL ret' av ow_vv f) (hY : ow_YV C y n bytes maxL ret') (hlink : Cond.methodLink own idx y ∈ ow_U) (hL : Lc < L) (hd : decode cc pc = .ok (.invokevirtual idx, 3)) (hp : pc + 3 = pc') (hj : lay[j]? = some (.inr (ci, fs))) (hc : vwCl[ci]? = some (C, T, N)) (hav : av (ow_q X) (ow_t X) = .ref (ow_q X j) :: As) (hn : As.length = n) (hst : st0 = As.reverse ++ .ref (ow_q X j) :: rest) (hroom : (rest.map fun v => v.category).sum ≤ 8)
    (h : ∀ r σ', ow_G X lay nL vf res (k r σ') pc' lv (rest) σ') : ow_G X lay nL vf res (ow_bd (f σ) k) pc lv st0 σ := g_callV F hM hY hlink hL hd hp hj hc hav hn hst hroom h
theorem g_callVr {jr : Nat} {f : ow_S → Option (Unit × ow_S)} {k : Unit → ow_S → Option (ρ × ow_S)} (F : ow_F X own cc nL ret b L) (hM : ow_M lay b Lc y bytes maxL ret' av (ow_vr jr) f) (hY : ow_YV C y n bytes maxL ret') (hlink : Cond.methodLink own idx y ∈ ow_U) (hL : Lc < L) (hd : decode cc pc = .ok (.invokevirtual idx, 3)) (hp : pc + 3 = pc') (hj : lay[j]? = some (.inr (ci, fs))) (hc : vwCl[ci]? = some (C, T, N)) (hav : av (ow_q X) (ow_t X) = .ref (ow_q X j) :: As) (hn : As.length = n) (hst : st0 = As.reverse ++ .ref (ow_q X j) :: rest) (hroom : (rest.map fun v => v.category).sum ≤ 8)
    (h : ∀ r σ', ow_G X lay nL vf res (k r σ') pc' lv (.ref (ow_q X jr) :: rest) σ') : ow_G X lay nL vf res (ow_bd (f σ) k) pc lv st0 σ := g_callV F hM hY hlink hL hd hp hj hc hav hn hst hroom h
theorem g_callSi {f : ow_S → Option (Int32 × ow_S)} {k : Int32 → ow_S → Option (ρ × ow_S)} (F : ow_F X own cc nL ret b L) (hM : ow_M lay b Lc y bytes maxL ret' av ow_vi f) (hY : ow_YS y n bytes maxL ret') (hlink : Cond.methodLink own idx y ∈ ow_U) (hL : Lc < L) (hd : decode cc pc = .ok (.invokestatic idx, 3)) (hp : pc + 3 = pc') (hav : av (ow_q X) (ow_t X) = As) (hn : As.length = n) (hst : st0 = As.reverse ++ rest) (hroom : (rest.map fun v => v.category).sum ≤ 8)
    (h : ∀ r σ', ow_G X lay nL vf res (k r σ') pc' lv (.int r :: rest) σ') : ow_G X lay nL vf res (ow_bd (f σ) k) pc lv st0 σ := g_callS F hM hY hlink hL hd hp hav hn hst hroom h
theorem g_callSl {f : ow_S → Option (Int64 × ow_S)} {k : Int64 → ow_S → Option (ρ × ow_S)} (F : ow_F X own cc nL ret b L) (hM : ow_M lay b Lc y bytes maxL ret' av ow_vl f) (hY : ow_YS y n bytes maxL ret') (hlink : Cond.methodLink own idx y ∈ ow_U) (hL : Lc < L) (hd : decode cc pc = .ok (.invokestatic idx, 3)) (hp : pc + 3 = pc') (hav : av (ow_q X) (ow_t X) = As) (hn : As.length = n) (hst : st0 = As.reverse ++ rest) (hroom : (rest.map fun v => v.category).sum ≤ 8)
    (h : ∀ r σ', ow_G X lay nL vf res (k r σ') pc' lv (.long r :: rest) σ') : ow_G X lay nL vf res (ow_bd (f σ) k) pc lv st0 σ := g_callS F hM hY hlink hL hd hp hav hn hst hroom h
theorem g_callSv {f : ow_S → Option (Unit × ow_S)} {k : Unit → ow_S → Option (ρ × ow_S)} (F : ow_F X own cc nL ret b L) (hM : ow_M lay b Lc y bytes maxL ret' av ow_vv f) (hY : ow_YS y n bytes maxL ret') (hlink : Cond.methodLink own idx y ∈ ow_U) (hL : Lc < L) (hd : decode cc pc = .ok (.invokestatic idx, 3)) (hp : pc + 3 = pc') (hav : av (ow_q X) (ow_t X) = As) (hn : As.length = n) (hst : st0 = As.reverse ++ rest) (hroom : (rest.map fun v => v.category).sum ≤ 8)
    (h : ∀ r σ', ow_G X lay nL vf res (k r σ') pc' lv (rest) σ') : ow_G X lay nL vf res (ow_bd (f σ) k) pc lv st0 σ := g_callS F hM hY hlink hL hd hp hav hn hst hroom h
theorem g_callTi {f : ow_S → Option (Int32 × ow_S)} {k : Int32 → ow_S → Option (ρ × ow_S)} (F : ow_F X own cc nL ret true L) (hM : ow_M lay true Lc y bytes maxL ret' av ow_vi f) (hY : ow_YV "java/lang/String" y n bytes maxL ret') (hlink : Cond.methodLink own idx y ∈ ow_U) (hL : Lc < L) (hd : decode cc pc = .ok (.invokevirtual idx, 3)) (hp : pc + 3 = pc') (hav : av (ow_q X) (ow_t X) = .ref (ow_t X 2) :: As) (hn : As.length = n) (hst : st0 = As.reverse ++ .ref (ow_t X 2) :: rest) (hroom : (rest.map fun v => v.category).sum ≤ 8)
    (h : ∀ r σ', ow_G X lay nL vf res (k r σ') pc' lv (.int r :: rest) σ') : ow_G X lay nL vf res (ow_bd (f σ) k) pc lv st0 σ := g_callT F hM hY hlink hL hd hp hav hn hst hroom h
theorem g_mmax {o : Option (ρ × ow_S)} (F : ow_F X own cc nL ret b L) {x y : Int32} (hlink : Cond.methodLink own idx Lib.Math.max.name ∈ ow_U) (hs : Cond.static Lib.Math.max.name ∈ ow_U) (hi : Cond.initialized "java/lang/Math" ∈ ow_U) (hc : Cond.code Lib.Math.max.name Lib.Math.max.code 2 (some .int) ∈ ow_U) (hL : 0 < L) (hd : decode cc pc = .ok (.invokestatic idx, 3)) (hp : pc + 3 = pc') (hroom : (rest.map fun v => v.category).sum ≤ 8) (h : ow_G X lay nL vf res o pc' lv (.int (if x < y then y else x) :: rest) σ) : ow_G X lay nL vf res o pc lv (.int y :: .int x :: rest) σ := by
  obtain ⟨p, l, e, R, s, m, args, below, meth, c, D, cy, A, q, t⟩ := X
  intro ho H locs ls hlv hP hD hS
  obtain ⟨hx, hb, hml, hown, hts, hK, hr, hlk, hA, hR, hro⟩ := F
  subst hp
  subst hR
  exact va_mmax hx hb (hml.trans hlv.1.symm) hown (hts _ hlink) (hts _ hs) (hts _ hi) (hts _ hc) (by simp only [ow_rm]; omega) (by simp only [ow_rm]; omega) (Nat.zero_le _) (Nat.zero_le _) hd (h ho H locs ls hlv hP hD hS)
theorem g_mmin {o : Option (ρ × ow_S)} (F : ow_F X own cc nL ret b L) {x y : Int32} (hlink : Cond.methodLink own idx Lib.Math.min.name ∈ ow_U) (hs : Cond.static Lib.Math.min.name ∈ ow_U) (hi : Cond.initialized "java/lang/Math" ∈ ow_U) (hc : Cond.code Lib.Math.min.name Lib.Math.min.code 2 (some .int) ∈ ow_U) (hL : 0 < L) (hd : decode cc pc = .ok (.invokestatic idx, 3)) (hp : pc + 3 = pc') (hroom : (rest.map fun v => v.category).sum ≤ 8) (h : ow_G X lay nL vf res o pc' lv (.int (if y < x then y else x) :: rest) σ) : ow_G X lay nL vf res o pc lv (.int y :: .int x :: rest) σ := by
  obtain ⟨p, l, e, R, s, m, args, below, meth, c, D, cy, A, q, t⟩ := X
  intro ho H locs ls hlv hP hD hS
  obtain ⟨hx, hb, hml, hown, hts, hK, hr, hlk, hA, hR, hro⟩ := F
  subst hp
  subst hR
  exact va_mmin hx hb (hml.trans hlv.1.symm) hown (hts _ hlink) (hts _ hs) (hts _ hi) (hts _ hc) (by simp only [ow_rm]; omega) (by simp only [ow_rm]; omega) (Nat.zero_le _) (Nat.zero_le _) hd (h ho H locs ls hlv hP hD hS)
end OWC
/-- the locals at a method's entry -/
def ow_en1 : List Value → List (Option Value)
  | [] => []
  | v :: vs => if v.category = 2 then some v :: none :: ow_en1 vs else some v :: ow_en1 vs
def ow_en (n : Nat) (vs : List Value) : List (Option Value) := ow_en1 vs ++ List.replicate (n - (ow_en1 vs).length) none
theorem ow_en1_mem : ∀ (vs : List Value) (o i : Nat) (v : Value), (ow_en1 vs)[i]? = some (some v) → (o + i, v) ∈ lv_args o vs
  | [], o, i, v, h => by simp [ow_en1] at h
  | w :: vs, o, i, v, h => by
    by_cases hc : w.category = 2
    · simp only [ow_en1, hc, if_true] at h
      simp only [lv_args, hc, if_true]
      match i, h with
      | 0, h => simp at h; rw [h]; exact List.mem_cons_self
      | 1, h => simp at h
      | i + 2, h =>
        have h2 : (ow_en1 vs)[i]? = some (some v) := by simpa using h
        have := ow_en1_mem vs (o + 2) i v h2
        refine List.mem_cons_of_mem _ ?_
        rw [show o + (i + 2) = o + 2 + i by omega]
        exact this
    · simp only [ow_en1, hc, if_false] at h
      simp only [lv_args, hc, if_false]
      match i, h with
      | 0, h => simp at h; rw [h]; exact List.mem_cons_self
      | i + 1, h =>
        have h2 : (ow_en1 vs)[i]? = some (some v) := by simpa using h
        have := ow_en1_mem vs (o + 1) i v h2
        refine List.mem_cons_of_mem _ ?_
        rw [show o + (i + 1) = o + 1 + i by omega]
        exact this
theorem ow_en_mem {n : Nat} {vs : List Value} {i : Nat} {v : Value} (h : (ow_en n vs)[i]? = some (some v)) : (i, v) ∈ lv_args 0 vs := by
  unfold ow_en at h
  by_cases hl : i < (ow_en1 vs).length
  · rw [List.getElem?_append_left hl] at h
    have := ow_en1_mem vs 0 i v h
    rwa [Nat.zero_add] at this
  · rw [List.getElem?_append_right (by omega), List.getElem?_replicate] at h
    split at h <;> simp at h
theorem ow_intro {ρ : Type} {lay : List ow_C} {b : Bool} {L : Nat} {y : MethodName} {cc : ByteArray} {maxL : Nat} {ret : Option FieldType} {av : (Nat → Nat) → (Nat → Nat) → List Value} {vf : (Nat → Nat) → ρ → Option Value} {f : ow_S → Option (ρ × ow_S)} {lv : (Nat → Nat) → (Nat → Nat) → List (Option Value)}
    (hy : plainName y.cls = true) (hlen : ∀ q t, (lg_sl (av q t)).length ≤ maxL) (hlv : ∀ q t, ow_en maxL (av q t) = lv q t)
    (h : ∀ (X : ow_X) (res : ρ × ow_S) (σ : ow_S), ow_F X y.cls cc maxL ret b L → ow_G X lay maxL vf res (f σ) 0 (lv (ow_q X) (ow_t X)) [] σ) : ow_M lay b L y cc maxL ret av vf f := by
  intro l D cy q t sz σ res hf
  refine Met.ofW (cc := cc) (maxL := maxL) (ret := ret) hy rfl ?_
  intro p e s m args below meth c s₁ B hml hv
  obtain ⟨rfl, hsz, hP, hK, hD0, hro⟩ := hv
  have hx := B.exec
  have hb := B.bytes
  have hr := B.returns
  have hts : ∀ w ∈ ow_U, w.before (av q t).toArray s = true := fun w hw => atoms_spec (ws := Cond.code y cc maxL ret :: ow_U) B.pre w (List.mem_cons_of_mem _ hw)
  have hown : s.vm.findClass y.cls = some m.cls := findClass_of_methodNamed B.named
  have hlocks := B.notSynchronized
  subst hsz
  have hD := hD0.self (sz := s.heap.size)
  have hA : ∀ a : Nat, s.heap.size ≤ a → va_A (ow_w lay q cy σ) s.heap.size a := fun a h => Or.inr h
  have hS : va_S (va_A (ow_w lay q cy σ) s.heap.size) s.heap s.heap [] := va_S.rf
  have hl := lv_entry (av q t) (n := maxL) (hlen q t)
  rw [lg_entry_eq]
  have F : ow_F (p, l, e, (headSpec (Cond.code y cc maxL ret :: ow_U) (ow_rm L)).room, s, m, (av q t).toArray, below, meth, c, D, cy, va_A (ow_w lay q cy σ) s.heap.size, q, t) y.cls cc maxL ret b L := ⟨hx, hb, hml, hown, hts, hK, hr, hlocks, hA, rfl, hro⟩
  refine h _ res σ F hf s.heap [] _ ⟨hl.1, hl.2.1, fun x hx => hl.2.2 x ?_⟩ hP hD hS
  have hx' := ow_pr_mem.mp (show (x.1, x.2) ∈ ow_pr (lv q t) from hx)
  rw [← hlv q t] at hx'
  exact ow_en_mem hx'

