/-! A calculus over the kit: a method's world is a picture (sh, m): sh says of each cell its kind, its length and its references, m holds the numbers, as whole numbers (Int). er_WP: from this instruction the frame comes to its end. er_Spec: a method's contract. -/
abbrev er_V : Type := Int ⊕ Nat
abbrev er_E : Type := Nat × Nat × List (Option Nat)
abbrev er_Sh : Type := List er_E
abbrev er_M : Type := Nat → Int → Int
abbrev er_K : Type := Launch × Nat × va_G × (Nat → ClassId) × Nat × Nat × (Nat → Int32)
abbrev er_in (x : Int) : Prop := -2147483648 ≤ x ∧ x < 2147483648
def er_ad (K : er_K) (r : Nat) : Nat := if r = 0 then K.2.2.2.2.1 else K.2.1 + r
def er_ro (K : er_K) (r : Nat) : Option Nat := if r = 0 then none else some (K.2.1 + r)
def er_cv (K : er_K) : er_V → Value
  | .inl x => .int (Int32.ofInt x)
  | .inr r => .ref (er_ad K r)
def er_fv (K : er_K) (m : er_M) (c k : Nat) : Option Nat → Value
  | none => .int (Int32.ofInt (m c k))
  | some r => va_rf (er_ro K r)
def er_fs (K : er_K) (m : er_M) (c n : Nat) (rs : List (Option Nat)) : List Value := (List.range n).map (fun k => er_fv K m c k (rs.getD k none))
def er_cell (K : er_K) (m : er_M) (c : Nat) (e : er_E) : va_E :=
  if e.1 < 3 then .inl (K.2.2.2.1 e.1, e.2.1, .inl (fun j => Int32.ofInt (m c j)))
  else if e.1 < 5 then .inl (K.2.2.2.1 e.1, e.2.1, .inr (.inr (.inr (.inr (fun j => er_ro K (m c j).toNat)))))
  else .inr (e.1 - 5, er_fs K m c e.2.1 e.2.2)
def er_ws (K : er_K) (sh : er_Sh) (m : er_M) : va_W := (List.range sh.length).map (fun i => (K.2.1 + (i + 1), er_cell K m (i + 1) (sh.getD i (99, 0, []))))
def er_at (sh : er_Sh) (c : Nat) : Option er_E := match c with
  | 0 => none
  | k + 1 => sh[k]?
def er_ty : Nat → FieldType := fun k => match k with
  | 0 => .int
  | 1 => .boolean
  | 2 => .int
  | 3 => .object "EscapeRouter$Board"
  | _ => .object "EscapeRouter$Layering"
def er_tys (K : er_K) : List (ClassId × FieldType) := [(K.2.2.2.1 0, .int), (K.2.2.2.1 1, .boolean), (K.2.2.2.1 2, .int), (K.2.2.2.1 3, .object "EscapeRouter$Board"), (K.2.2.2.1 4, .object "EscapeRouter$Layering")]
def er_A (K : er_K) : Nat → Prop := fun q => K.2.1 < q
/-- what else the state says: the nest mates' links, the rows of objects -/
def er_N (U : State) : Prop := (∀ q ∈ er_nw, va_Nw (.methodLinkNest q.1 q.2.1 q.2.2.1 q.2.2.2) U) ∧ va_AO "EscapeRouter$Board" U ∧ va_AO "EscapeRouter$Layering" U
theorem er_N.warm {s U : State} (hW : s.WarmedH U.vm) (h : er_N s) : er_N U := ⟨fun q hq => va_Nw.warmM hW (h.1 q hq), h.2.1.moved hW.alike, h.2.2.moved hW.alike⟩
theorem er_N.same {u U : State} (hv : u.vm = U.vm) (h : er_N u) : er_N U := ⟨fun q hq => va_Nw.same rfl hv (h.1 q hq), h.2.1.moved (hv ▸ Vm.Alike.refl _), h.2.2.moved (hv ▸ Vm.Alike.refl _)⟩
def er_X (K : er_K) (U : State) : Prop := va_X K.2.2.2.2.1 K.2.2.2.2.2.1 K.2.2.2.2.2.2 U U.heap ∧ K.2.2.2.2.1 ≤ K.2.1 ∧ er_N U
def er_W (K : er_K) (sh : er_Sh) (m : er_M) (U : State) (H : Heap) : Prop := va_P K.2.2.1 er_cl (er_ws K sh m) H ∧ va_K K.2.2.1 er_cl (er_tys K) U
def er_wd (i : er_I) : List Cond := Cond.code i.1 i.2.1 i.2.2.1 i.2.2.2.1 :: er_tb
def er_Cx (K : er_K) (i : er_I) (p : Program) (mm : MethodId) (meth : Method) (c : Code) (s : State) (args : Array Value) : Prop :=
  p.tables.exec = Jvm.exec ∧ c.code = i.2.1 ∧ c.maxLocals = i.2.2.1 ∧ meth.sig.returnType = i.2.2.2.1 ∧ meth.locks = false ∧ meth.name = i.1.name ∧ s.vm.findClass i.1.cls = some mm.cls ∧ (∀ w ∈ er_tb, w.before args s = true) ∧ K.2.1 < s.heap.size ∧ er_X K s
def er_lv (K : er_K) : Nat → List (Option er_V) → List (Nat × Value)
  | _, [] => []
  | i, none :: t => er_lv K (i + 1) t
  | i, some v :: t => (i, er_cv K v) :: er_lv K (i + 1) t
/-- from this instruction on, the frame comes to the target Z -/
def er_WP (K : er_K) (i : er_I) (uc us : Nat) (sh : er_Sh) (m : er_M) (pc : Nat) (ls : List (Option er_V)) (st : List er_V) (Z : List Frame → Array Value → State → State → Prop) : Prop :=
  ∀ (p : Program) (e : Env) (s : State) (mm : MethodId) (args : Array Value) (below : List Frame) (meth : Method) (c : Code) (H : Heap) (locs : List Loc) (la : Array Slot),
    er_Cx K i p mm meth c s args → K.2.1 + 1 + sh.length = s.heap.size + uc → er_W K sh m s H → va_S (er_A K) s.heap H locs → lv_has la i.2.2.1 (er_lv K 0 ls) →
    W p K.1 e i.2.2.2.2 s mm args below meth c H locs uc us (Z below args s) (F0 mm pc la (st.map (er_cv K)))
abbrev er_Post : Type := Option er_V → er_Sh → er_M → Prop
def er_Qc (K : er_K) (i : er_I) (Q : er_Post) : Array Value → State → Outcome → State → Prop := fun _ st oc t =>
  (∃ (v : Option er_V) (sh : er_Sh) (m : er_M), oc = .returned (v.map (er_cv K)) ∧ Q v sh m ∧ er_W K sh m t t.heap ∧ K.2.1 + 1 + sh.length = st.heap.size + i.2.2.2.2.cells) ∧ va_F (er_A K) st t
/-- a method's contract: called with these arguments in this picture it returns, and Q holds of its answer and of the picture behind it -/
def er_Spec (K : er_K) (i : er_I) (as : List er_V) (sh : er_Sh) (m : er_M) (Q : er_Post) : Prop :=
  Met K.1 i.1 (er_wd i) i.2.2.2.2 (va_Pc (as.map (er_cv K)) (fun U => er_W K sh m U U.heap ∧ er_X K U ∧ U.heap.size = K.2.1 + 1 + sh.length)) (er_Qc K i Q) i.2.2.2.2.cells i.2.2.2.2.slots (er_A K)
def er_Z (K : er_K) (i : er_I) (Q : er_Post) : List Frame → Array Value → State → State → Prop := fun below args s => MQ below (er_Qc K i Q) args s i.2.2.2.2.cells i.2.2.2.2.slots (er_A K)
/-- a number is written -/
def er_st (m : er_M) (c : Nat) (k v : Int) : er_M := fun c' k' => if c' = c ∧ k' = k then v else m c' k'
/-- a new cell of zeros -/
def er_clr (m : er_M) (c : Nat) : er_M := fun c' k' => if c' = c then 0 else m c' k'
/-- part of a row is copied to another -/
def er_cpy (m : er_M) (a b : Nat) (n : Int) : er_M := fun c' k' => if c' = b ∧ 0 ≤ k' ∧ k' < n then m a k' else m c' k'
/-- a reference is written -/
def er_sr (sh : er_Sh) (c k r : Nat) : er_Sh := match c with
  | 0 => sh
  | j + 1 => sh.set j ((sh.getD j (99, 0, [])).1, (sh.getD j (99, 0, [])).2.1, (sh.getD j (99, 0, [])).2.2.set k (some r))
theorem er_at_ne {sh : er_Sh} {c : Nat} {e : er_E} (h : er_at sh c = some e) : ∃ k, c = k + 1 ∧ sh[k]? = some e ∧ k < sh.length := by
  cases c with
  | zero => cases h
  | succ k => exact ⟨k, rfl, h, (List.getElem?_eq_some_iff.mp h).1⟩
theorem er_ad_at {K : er_K} {sh : er_Sh} {c : Nat} {e : er_E} (h : er_at sh c = some e) : er_ad K c = K.2.1 + c := by
  obtain ⟨k, rfl, -⟩ := er_at_ne h
  rfl
theorem er_ws_at {K : er_K} {sh : er_Sh} {m : er_M} {c : Nat} {e : er_E} (h : er_at sh c = some e) : (er_ws K sh m)[c - 1]? = some (K.2.1 + c, er_cell K m c e) := by
  obtain ⟨k, rfl, h1, h2⟩ := er_at_ne h
  simp only [er_ws, Nat.add_sub_cancel, List.getElem?_map, List.getElem?_range h2, Option.map_some, List.getD_eq_getElem?_getD, h1, Option.getD_some]
theorem er_ws_len (K : er_K) (sh : er_Sh) (m : er_M) : (er_ws K sh m).length = sh.length := by simp [er_ws]
theorem er_ws_D (K : er_K) (sh : er_Sh) (m : er_M) : va_D (er_A K) (er_ws K sh m) := by
  refine ⟨fun i j p q hi hj h => ?_, fun k q hk => ?_⟩
  · obtain ⟨i', hi1, hi2⟩ : ∃ i', i' = i ∧ p.1 = K.2.1 + (i' + 1) := by
      refine ⟨i, rfl, ?_⟩
      simp only [er_ws, List.getElem?_map, Option.map_eq_some_iff] at hi
      obtain ⟨a, h1, h2⟩ := hi
      have h3 := (List.getElem?_eq_some_iff.mp h1)
      obtain ⟨h4, h5⟩ := h3
      simp at h5
      rw [← h2, ← h5]
    obtain ⟨j', hj1, hj2⟩ : ∃ j', j' = j ∧ q.1 = K.2.1 + (j' + 1) := by
      refine ⟨j, rfl, ?_⟩
      simp only [er_ws, List.getElem?_map, Option.map_eq_some_iff] at hj
      obtain ⟨a, h1, h2⟩ := hj
      have h3 := (List.getElem?_eq_some_iff.mp h1)
      obtain ⟨h4, h5⟩ := h3
      simp at h5
      rw [← h2, ← h5]
    omega
  · simp only [er_ws, List.getElem?_map, Option.map_eq_some_iff] at hk
    obtain ⟨a, h1, h2⟩ := hk
    show K.2.1 < q.1
    rw [← h2]
    show K.2.1 < K.2.1 + (a + 1)
    omega
theorem er_ws_up {K : er_K} {sh : er_Sh} {m m' : er_M} {c : Nat} {e : er_E} {x : va_E} (h : er_at sh c = some e) (hx : x = er_cell K m' c e) (ho : ∀ c', c' ≠ c → m' c' = m c') : (er_ws K sh m).set (c - 1) (K.2.1 + c, x) = er_ws K sh m' := by
  obtain ⟨k, rfl, h1, h2⟩ := er_at_ne h
  apply List.ext_getElem?
  intro j
  rw [Nat.add_sub_cancel]
  by_cases hj : j = k
  · subst hj
    rw [List.getElem?_set_self (by rw [er_ws_len]; exact h2)]
    have := er_ws_at (K := K) (m := m') h
    rw [Nat.add_sub_cancel] at this
    rw [this, hx]
  · rw [List.getElem?_set_ne (Ne.symm hj)]
    by_cases hl : j < sh.length
    · simp only [er_ws, List.getElem?_map, List.getElem?_range hl, Option.map_some]
      have : er_cell K m (j + 1) (sh.getD j (99, 0, [])) = er_cell K m' (j + 1) (sh.getD j (99, 0, [])) := by
        have h3 := ho (j + 1) (by omega)
        unfold er_cell er_fs er_fv
        simp only [h3]
      rw [this]
    · have e1 : (er_ws K sh m)[j]? = none := List.getElem?_eq_none (by rw [er_ws_len]; omega)
      have e2 : (er_ws K sh m')[j]? = none := List.getElem?_eq_none (by rw [er_ws_len]; omega)
      rw [e1, e2]
theorem er_lv_get {K : er_K} {v : er_V} : ∀ (ls : List (Option er_V)) (k n : Nat), ls[k]? = some (some v) → (n + k, er_cv K v) ∈ er_lv K n ls := by
  intro ls
  induction ls with
  | nil => intro k n h; simp at h
  | cons a t ih =>
    intro k n h
    cases k with
    | zero =>
      simp at h
      subst h
      exact List.mem_cons_self
    | succ k =>
      have h2 : t[k]? = some (some v) := by simpa using h
      have := ih k (n + 1) h2
      rw [show n + 1 + k = n + (k + 1) by omega] at this
      cases a with
      | none => exact this
      | some w => exact List.mem_cons_of_mem _ this
theorem er_lv_mem {K : er_K} {q : Nat × Value} : ∀ (ls : List (Option er_V)) (n : Nat), q ∈ er_lv K n ls → ∃ k v, ls[k]? = some (some v) ∧ q = (n + k, er_cv K v) := by
  intro ls
  induction ls with
  | nil => intro n h; simp [er_lv] at h
  | cons a t ih =>
    intro n h
    cases a with
    | none =>
      obtain ⟨k, v, h1, h2⟩ := ih (n + 1) h
      exact ⟨k + 1, v, by simpa using h1, by rw [h2, show n + 1 + k = n + (k + 1) by omega]⟩
    | some w =>
      rcases List.mem_cons.mp h with h | h
      · exact ⟨0, w, rfl, h⟩
      · obtain ⟨k, v, h1, h2⟩ := ih (n + 1) h
        exact ⟨k + 1, v, by simpa using h1, by rw [h2, show n + 1 + k = n + (k + 1) by omega]⟩
theorem er_cat (K : er_K) (v : er_V) : (er_cv K v).category = 1 := by cases v <;> rfl
theorem er_catsum (K : er_K) (st : List er_V) : ((st.map (er_cv K)).map fun v => v.category).sum = st.length := by
  induction st with
  | nil => rfl
  | cons a t ih => simp only [List.map_cons, List.sum_cons, ih, er_cat, List.length_cons]; omega
theorem er_has_get {K : er_K} {la : Array Slot} {n : Nat} {ls : List (Option er_V)} (h : lv_has la n (er_lv K 0 ls)) {k : Nat} {v : er_V} (hk : ls[k]? = some (some v)) : la[k]? = some (.val (er_cv K v)) := by
  have := h.2.2 _ (er_lv_get (K := K) ls k 0 hk)
  rw [Nat.zero_add] at this
  exact this
theorem er_has_sub {K : er_K} {la : Array Slot} {n : Nat} {ls ls' : List (Option er_V)} (h : lv_has la n (er_lv K 0 ls)) (hs : ∀ (k : Nat) (v : er_V), ls'[k]? = some (some v) → ls[k]? = some (some v)) : lv_has la n (er_lv K 0 ls') := by
  refine ⟨h.1, h.2.1, fun q hq => ?_⟩
  obtain ⟨k, v, h1, rfl⟩ := er_lv_mem ls' 0 hq
  show la[0 + k]? = some (.val (er_cv K v))
  rw [Nat.zero_add]
  exact er_has_get h (hs k v h1)
theorem er_has_set {K : er_K} {la : Array Slot} {n : Nat} {ls : List (Option er_V)} (h : lv_has la n (er_lv K 0 ls)) {k : Nat} (hk : k < n) (v : er_V) : ∃ la', storeLocals la k (er_cv K v) = some la' ∧ lv_has la' n (er_lv K 0 (ls.set k (some v))) := by
  obtain ⟨la', h1, h2⟩ := lv_store1 h hk (er_cat K v)
  refine ⟨la', h1, h2.1, h2.2.1, fun q hq => ?_⟩
  obtain ⟨j, w, h3, rfl⟩ := er_lv_mem _ 0 hq
  apply h2.2.2
  by_cases hj : j = k
  · subst hj
    by_cases hl : j < ls.length
    · rw [List.getElem?_set_self hl] at h3
      have : w = v := by simpa using h3.symm
      rw [this, Nat.zero_add]
      exact List.mem_cons_self
    · rw [List.getElem?_eq_none (by simp; omega)] at h3
      cases h3
  · rw [List.getElem?_set_ne (Ne.symm hj)] at h3
    apply List.mem_cons_of_mem
    apply List.mem_filter.mpr
    refine ⟨er_lv_get ls j 0 h3, ?_⟩
    simp [er_cat, hj]
/-- locals forgotten: the new list's are among the old's -/
def er_wk : List (Option er_V) → List (Option er_V) → Prop
  | [], _ => True
  | none :: a, _ :: b => er_wk a b
  | some v :: a, w :: b => w = some v ∧ er_wk a b
  | none :: a, [] => er_wk a []
  | some _ :: _, [] => False
theorem er_wk_spec : ∀ (a b : List (Option er_V)), er_wk a b → ∀ (k : Nat) (v : er_V), a[k]? = some (some v) → b[k]? = some (some v) := by
  intro a
  induction a with
  | nil => intro b _ k v h; simp at h
  | cons x t ih =>
    intro b h k v hk
    cases b with
    | nil =>
      cases x with
      | none =>
        cases k with
        | zero => simp at hk
        | succ k => have := ih [] h k v (by simpa using hk); simp at this
      | some w => exact absurd h id
    | cons y b =>
      cases x with
      | none =>
        cases k with
        | zero => simp at hk
        | succ k => simpa using ih b h k v (by simpa using hk)
      | some w =>
        cases k with
        | zero =>
          have h1 := h.1
          simp at hk
          subst hk
          simp [h1]
        | succ k => simpa using ih b h.2 k v (by simpa using hk)
theorem er_ofInt_inj {x y : Int} (hx : er_in x) (hy : er_in y) : Int32.ofInt x = Int32.ofInt y ↔ x = y := by
  rw [← Int32.toInt_inj, Int32.toInt_ofInt_of_le (by have := hx.1; omega) (by have := hx.2; omega), Int32.toInt_ofInt_of_le (by have := hy.1; omega) (by have := hy.2; omega)]
theorem er_toInt {x : Int} (hx : er_in x) : (Int32.ofInt x).toInt = x := Int32.toInt_ofInt_of_le (by have := hx.1; omega) (by have := hx.2; omega)
theorem er_ofInt_le {x y : Int} (hx : er_in x) (hy : er_in y) : Int32.ofInt x ≤ Int32.ofInt y ↔ x ≤ y := by
  rw [Int32.le_iff_toInt_le, er_toInt hx, er_toInt hy]
theorem er_ofInt_lt {x y : Int} (hx : er_in x) (hy : er_in y) : Int32.ofInt x < Int32.ofInt y ↔ x < y := by
  rw [Int32.lt_iff_toInt_lt, er_toInt hx, er_toInt hy]
theorem er_zero : Int32.ofInt 0 = 0 := rfl
theorem er_ix {x : Int} {n : Nat} (h0 : 0 ≤ x) (h1 : x < n) (hn : n ≤ 2147483648) : vp_in (Int32.ofInt x) n ∧ (Int32.ofInt x).toNatClampNeg = x.toNat := by
  have hi : er_in x := ⟨by omega, by omega⟩
  have e : (Int32.ofInt x).toNatClampNeg = x.toNat := by rw [← Int32.toNat_toInt, er_toInt hi]
  refine ⟨fun h => ?_, e⟩
  rcases h with h | h
  · rw [← er_zero, er_ofInt_lt hi ⟨by omega, by omega⟩] at h
    omega
  · rw [e] at h
    omega
