/-! the rows of memory, of calls and returns -/
/-- a field's place: own's constant pool entry names field k of class ci -/
def er_FL (own : String) (index ci k : Nat) (fin : Bool) (ty : FieldType) : Prop := ∃ (C : String) (T : u_T) (N : Nat) (t0 : Nat → FieldType), er_cl[ci]? = some (C, T, N) ∧ k < N ∧ (∀ w ∈ u_ws C T N, w ∈ er_tb) ∧ Cond.fieldLink own index (T k).1 (T k).2.1 (T k).2.2.1 ∈ er_tb ∧ (∀ j, j < N → parseFieldDescriptor (T j).2.2.1 = some (t0 j)) ∧ (∀ a, a < N → ∀ b, b < N → a ≠ b → (T a).2.1 ≠ (T b).2.1) ∧ (T k).2.2.2 = fin ∧ t0 k = ty ∧ (T k).1 = C
theorem er_cell_obj (K : er_K) (m : er_M) (c ci n : Nat) (rs : List (Option Nat)) : er_cell K m c (ci + 5, n, rs) = .inr (ci, er_fs K m c n rs) := by
  unfold er_cell
  rw [if_neg (by show ¬ ci + 5 < 3; omega), if_neg (by show ¬ ci + 5 < 5; omega)]
  rfl
theorem er_fs_get {K : er_K} {m : er_M} {c n k : Nat} {rs : List (Option Nat)} (hk : k < n) : (er_fs K m c n rs)[k]? = some (er_fv K m c k (rs.getD k none)) := by
  simp [er_fs, hk]
theorem er_fs_set {K : er_K} {m m' : er_M} {c n k : Nat} {rs rs' : List (Option Nat)} {v : Value} (hv : v = er_fv K m' c k (rs'.getD k none)) (ho : ∀ j, j < n → j ≠ k → er_fv K m c j (rs.getD j none) = er_fv K m' c j (rs'.getD j none)) : (er_fs K m c n rs).set k v = er_fs K m' c n rs' := by
  apply List.ext_getElem?
  intro j
  by_cases hn : j < n
  · rw [er_fs_get hn]
    by_cases hj : j = k
    · subst hj
      rw [List.getElem?_set_self (by simp [er_fs]; exact hn), hv]
    · rw [List.getElem?_set_ne (Ne.symm hj), er_fs_get hn, ho j hn hj]
  · rw [List.getElem?_eq_none (by simp [er_fs]; omega), List.getElem?_eq_none (by simp [er_fs]; omega)]
theorem er_ro_rf {K : er_K} {r : Nat} (hr : r ≠ 0) : va_rf (er_ro K r) = .ref (er_ad K r) := by
  simp [er_ro, er_ad, hr, va_rf]
theorem er_A_of {K : er_K} {s : State} (h : K.2.1 < s.heap.size) : ∀ q, s.heap.size ≤ q → er_A K q := fun q hq => Nat.lt_of_lt_of_le h hq
section ER2
variable {K : er_K} {i : er_I} {uc us : Nat} {sh : er_Sh} {m : er_M} {pc : Nat} {ls : List (Option er_V)} {st : List er_V} {Z : List Frame → Array Value → State → State → Prop}
theorem er_getI {index ci k n c : Nat} {rs : List (Option Nat)} {fin : Bool} {ty : FieldType} (hf : er_FL i.1.cls index ci k fin ty) (hc : er_at sh c = some (ci + 5, n, rs)) (hk : k < n) (hr : rs.getD k none = none) (hd : decode i.2.1 pc = .ok (.getfield index, 3)) (kk : er_WP K i uc us sh m (pc + 3) ls (.inl (m c k) :: st) Z) : er_WP K i uc us sh m pc ls (.inr c :: st) Z := by
  obtain ⟨C0, T, N, t0, h1, h2, h3, h4, -⟩ := hf
  intro p e s mm args below meth c1 H locs la C hz hW hS hl
  have e1 := er_ws_at (K := K) (m := m) hc
  rw [er_cell_obj] at e1
  show W _ _ _ _ _ _ _ _ _ _ _ _ _ _ _ (F0 mm pc la (.ref (er_ad K c) :: st.map (er_cv K)))
  rw [er_ad_at hc]
  exact va_get C.1 C.2.1 C.2.2.2.2.2.2.2.1 h3 C.2.2.2.2.2.2.1 hW.2 hW.1 (c - 1) e1 h1 k h2 (C.2.2.2.2.2.2.2.1 _ h4) (fun _ h => h) (v := .int (Int32.ofInt (m c k))) (by rw [er_fs_get hk, hr]; rfl) hd (kk p e s mm args below meth c1 H locs la C hz hW hS hl)
theorem er_getR {index ci k n c r : Nat} {rs : List (Option Nat)} {fin : Bool} {ty : FieldType} (hf : er_FL i.1.cls index ci k fin ty) (hc : er_at sh c = some (ci + 5, n, rs)) (hk : k < n) (hr : rs.getD k none = some r) (hr0 : r ≠ 0) (hd : decode i.2.1 pc = .ok (.getfield index, 3)) (kk : er_WP K i uc us sh m (pc + 3) ls (.inr r :: st) Z) : er_WP K i uc us sh m pc ls (.inr c :: st) Z := by
  obtain ⟨C0, T, N, t0, h1, h2, h3, h4, -⟩ := hf
  intro p e s mm args below meth c1 H locs la C hz hW hS hl
  have e1 := er_ws_at (K := K) (m := m) hc
  rw [er_cell_obj] at e1
  show W _ _ _ _ _ _ _ _ _ _ _ _ _ _ _ (F0 mm pc la (.ref (er_ad K c) :: st.map (er_cv K)))
  rw [er_ad_at hc]
  exact va_get C.1 C.2.1 C.2.2.2.2.2.2.2.1 h3 C.2.2.2.2.2.2.1 hW.2 hW.1 (c - 1) e1 h1 k h2 (C.2.2.2.2.2.2.2.1 _ h4) (fun _ h => h) (v := .ref (er_ad K r)) (by rw [er_fs_get hk, hr]; exact congrArg some (er_ro_rf hr0)) hd (kk p e s mm args below meth c1 H locs la C hz hW hS hl)
theorem er_putX {index ci k n c : Nat} {rs : List (Option Nat)} {ty : FieldType} {x : Int} (hf : er_FL i.1.cls index ci k false ty) (hc : er_at sh c = some (ci + 5, n, rs)) (hk : k < n) (hr : rs.getD k none = none) (hn : narrow ty (.int (Int32.ofInt x)) = .int (Int32.ofInt x)) (hfit : fits ty (.int (Int32.ofInt x)) = true) (hd : decode i.2.1 pc = .ok (.putfield index, 3)) (kk : er_WP K i uc us sh (er_st m c k x) (pc + 3) ls st Z) : er_WP K i uc us sh m pc ls (.inl x :: .inr c :: st) Z := by
  obtain ⟨C0, T, N, t0, h1, h2, h3, h4, h5, h6, h7, h8, h9⟩ := hf
  intro p e s mm args below meth c1 H locs la C hz hW hS hl
  have e1 := er_ws_at (K := K) (m := m) hc
  rw [er_cell_obj] at e1
  show W _ _ _ _ _ _ _ _ _ _ _ _ _ _ _ (F0 mm pc la (.int (Int32.ofInt x) :: .ref (er_ad K c) :: st.map (er_cv K)))
  rw [er_ad_at hc]
  have eset : (er_ws K sh m).set (c - 1) (K.2.1 + c, .inr (ci, (er_fs K m c n rs).set k (.int (Int32.ofInt x)))) = er_ws K sh (er_st m c k x) := by
    refine er_ws_up hc ?_ (fun c' hc' => by funext j; simp [er_st, hc'])
    rw [er_cell_obj]
    congr 2
    refine er_fs_set (by rw [hr]; simp [er_fv, er_st]) (fun j _ hj => ?_)
    cases rs.getD j none with
    | some r => rfl
    | none =>
      show Value.int (Int32.ofInt (m c j)) = Value.int (Int32.ofInt (er_st m c k x c j))
      rw [show er_st m c k x c j = m c j from by unfold er_st; rw [if_neg (by omega)]]
  refine va_put C.1 C.2.1 C.2.2.2.2.2.2.2.1 h3 t0 h5 h6 C.2.2.2.2.2.2.1 hW.2 hW.1 (er_ws_D K sh m) hS (c - 1) e1 h1 k h2 (C.2.2.2.2.2.2.2.1 _ h4) (fun _ h => h) h7 (ty := ty) (v := .int (Int32.ofInt x)) (by rw [h5 k h2, h8]) hn hfit (by simp [er_fs]; exact hk) hd (fun H1 locs1 hP1 hD1 hS1 => ?_)
  rw [eset] at hP1
  exact kk p e s mm args below meth c1 H1 locs1 la C hz ⟨hP1, hW.2⟩ hS1 hl
theorem er_putI {index ci k n c : Nat} {rs : List (Option Nat)} {x : Int} (hf : er_FL i.1.cls index ci k false .int) (hc : er_at sh c = some (ci + 5, n, rs)) (hk : k < n) (hr : rs.getD k none = none) (hd : decode i.2.1 pc = .ok (.putfield index, 3)) (kk : er_WP K i uc us sh (er_st m c k x) (pc + 3) ls st Z) : er_WP K i uc us sh m pc ls (.inl x :: .inr c :: st) Z :=
  er_putX hf hc hk hr rfl rfl hd kk
theorem er_putZ {index ci k n c : Nat} {rs : List (Option Nat)} {x : Int} (hf : er_FL i.1.cls index ci k false .boolean) (hc : er_at sh c = some (ci + 5, n, rs)) (hk : k < n) (hr : rs.getD k none = none) (hx : x = 0 ∨ x = 1) (hd : decode i.2.1 pc = .ok (.putfield index, 3)) (kk : er_WP K i uc us sh (er_st m c k x) (pc + 3) ls st Z) : er_WP K i uc us sh m pc ls (.inl x :: .inr c :: st) Z := by
  refine er_putX hf hc hk hr ?_ ?_ hd kk
  · rcases hx with rfl | rfl <;> rfl
  · rcases hx with rfl | rfl <;> rfl
theorem er_cell_n (K : er_K) (m : er_M) (c k n : Nat) (rs : List (Option Nat)) (hk : k < 3) : er_cell K m c (k, n, rs) = .inl (K.2.2.2.1 k, n, .inl (fun j => Int32.ofInt (m c j))) := by
  unfold er_cell
  rw [if_pos (show k < 3 from hk)]
theorem er_cell_q (K : er_K) (m : er_M) (c k n : Nat) (rs : List (Option Nat)) (h3 : 3 ≤ k) (h5 : k < 5) : er_cell K m c (k, n, rs) = .inl (K.2.2.2.1 k, n, .inr (.inr (.inr (.inr (fun j => er_ro K (m c j).toNat))))) := by
  unfold er_cell
  rw [if_neg (show ¬ k < 3 by omega), if_pos (show k < 5 from h5)]
theorem er_iald {c n : Nat} {rs : List (Option Nat)} {j : Int} (hc : er_at sh c = some (0, n, rs)) (hn : n ≤ 2147483648) (h0 : 0 ≤ j) (h1 : j < n) (hd : decode i.2.1 pc = .ok (.iaload, 1)) (kk : er_WP K i uc us sh m (pc + 1) ls (.inl (m c j) :: st) Z) : er_WP K i uc us sh m pc ls (.inl j :: .inr c :: st) Z := by
  intro p e s mm args below meth c1 H locs la C hz hW hS hl
  have e1 := er_ws_at (K := K) (m := m) hc
  rw [er_cell_n _ _ _ _ _ _ (by decide)] at e1
  obtain ⟨g1, g2⟩ := er_ix h0 h1 hn
  show W _ _ _ _ _ _ _ _ _ _ _ _ _ _ _ (F0 mm pc la (.int (Int32.ofInt j) :: .ref (er_ad K c) :: st.map (er_cv K)))
  rw [er_ad_at hc]
  have hk := kk p e s mm args below meth c1 H locs la C hz hW hS hl
  refine va_iald C.1 C.2.1 hW.2 hW.1 (c - 1) 0 e1 rfl g1 hd ?_
  rw [g2, Int.toNat_of_nonneg h0]
  exact hk
theorem er_zald {c n : Nat} {rs : List (Option Nat)} {j : Int} (hc : er_at sh c = some (1, n, rs)) (hn : n ≤ 2147483648) (h0 : 0 ≤ j) (h1 : j < n) (hd : decode i.2.1 pc = .ok (.baload, 1)) (kk : er_WP K i uc us sh m (pc + 1) ls (.inl (m c j) :: st) Z) : er_WP K i uc us sh m pc ls (.inl j :: .inr c :: st) Z := by
  intro p e s mm args below meth c1 H locs la C hz hW hS hl
  have e1 := er_ws_at (K := K) (m := m) hc
  rw [er_cell_n _ _ _ _ _ _ (by decide)] at e1
  obtain ⟨g1, g2⟩ := er_ix h0 h1 hn
  show W _ _ _ _ _ _ _ _ _ _ _ _ _ _ _ (F0 mm pc la (.int (Int32.ofInt j) :: .ref (er_ad K c) :: st.map (er_cv K)))
  rw [er_ad_at hc]
  have hk := kk p e s mm args below meth c1 H locs la C hz hW hS hl
  refine va_zald C.1 C.2.1 hW.2 hW.1 (c - 1) 1 e1 rfl g1 hd ?_
  rw [g2, Int.toNat_of_nonneg h0]
  exact hk
theorem er_aald {c k n : Nat} {rs : List (Option Nat)} {j : Int} {r : Nat} (hc : er_at sh c = some (k, n, rs)) (hk : k = 3 ∨ k = 4) (hn : n ≤ 2147483648) (h0 : 0 ≤ j) (h1 : j < n) (hr : m c j = (r : Nat)) (hr0 : r ≠ 0) (hd : decode i.2.1 pc = .ok (.aaload, 1)) (kk : er_WP K i uc us sh m (pc + 1) ls (.inr r :: st) Z) : er_WP K i uc us sh m pc ls (.inl j :: .inr c :: st) Z := by
  intro p e s mm args below meth c1 H locs la C hz hW hS hl
  have e1 := er_ws_at (K := K) (m := m) hc
  rw [er_cell_q _ _ _ _ _ _ (by omega) (by omega)] at e1
  obtain ⟨g1, g2⟩ := er_ix h0 h1 hn
  show W _ _ _ _ _ _ _ _ _ _ _ _ _ _ _ (F0 mm pc la (.int (Int32.ofInt j) :: .ref (er_ad K c) :: st.map (er_cv K)))
  rw [er_ad_at hc]
  have hk2 := kk p e s mm args below meth c1 H locs la C hz hW hS hl
  have e2 : va_rf (er_ro K (m c ((Int32.ofInt j).toNatClampNeg : Nat)).toNat) = .ref (er_ad K r) := by
    rw [g2, Int.toNat_of_nonneg h0, hr, Int.toNat_natCast]
    exact er_ro_rf hr0
  rcases hk with rfl | rfl
  · refine va_aldq C.1 C.2.1 hW.2 hW.1 (c - 1) 3 e1 rfl g1 hd ?_
    rw [e2]
    exact hk2
  · refine va_aldq C.1 C.2.1 hW.2 hW.1 (c - 1) 4 e1 rfl g1 hd ?_
    rw [e2]
    exact hk2
theorem er_up_eq (m : er_M) (c : Nat) (j x : Int) (h0 : 0 ≤ j) : upd (fun k : Nat => Int32.ofInt (m c k)) j.toNat (Int32.ofInt x) = fun k : Nat => Int32.ofInt (er_st m c j x c k) := by
  funext k
  unfold upd er_st
  by_cases hk : k = j.toNat
  · subst hk
    rw [if_pos rfl, if_pos ⟨rfl, by omega⟩]
  · rw [if_neg hk, if_neg (fun h => hk (by omega))]
theorem er_iast {c n : Nat} {rs : List (Option Nat)} {j x : Int} (hc : er_at sh c = some (0, n, rs)) (hn : n ≤ 2147483648) (h0 : 0 ≤ j) (h1 : j < n) (hd : decode i.2.1 pc = .ok (.iastore, 1)) (kk : er_WP K i uc us sh (er_st m c j x) (pc + 1) ls st Z) : er_WP K i uc us sh m pc ls (.inl x :: .inl j :: .inr c :: st) Z := by
  intro p e s mm args below meth c1 H locs la C hz hW hS hl
  have e1 := er_ws_at (K := K) (m := m) hc
  rw [er_cell_n _ _ _ _ _ _ (by decide)] at e1
  obtain ⟨g1, g2⟩ := er_ix h0 h1 hn
  show W _ _ _ _ _ _ _ _ _ _ _ _ _ _ _ (F0 mm pc la (.int (Int32.ofInt x) :: .int (Int32.ofInt j) :: .ref (er_ad K c) :: st.map (er_cv K)))
  rw [er_ad_at hc]
  refine va_iast C.1 C.2.1 hW.2 hW.1 (er_ws_D K sh m) hS (c - 1) 0 e1 rfl g1 hd (fun H1 locs1 hP1 _ hS1 => ?_)
  rw [g2, er_up_eq m c j x h0, er_ws_up (m' := er_st m c j x) hc (er_cell_n _ _ _ _ _ _ (by decide)).symm (fun c' hc' => by funext k; simp [er_st, hc'])] at hP1
  exact kk p e s mm args below meth c1 H1 locs1 la C hz ⟨hP1, hW.2⟩ hS1 hl
theorem er_zast {c n : Nat} {rs : List (Option Nat)} {j x : Int} (hc : er_at sh c = some (1, n, rs)) (hn : n ≤ 2147483648) (h0 : 0 ≤ j) (h1 : j < n) (hx : x = 0 ∨ x = 1) (hd : decode i.2.1 pc = .ok (.bastore, 1)) (kk : er_WP K i uc us sh (er_st m c j x) (pc + 1) ls st Z) : er_WP K i uc us sh m pc ls (.inl x :: .inl j :: .inr c :: st) Z := by
  intro p e s mm args below meth c1 H locs la C hz hW hS hl
  have e1 := er_ws_at (K := K) (m := m) hc
  rw [er_cell_n _ _ _ _ _ _ (by decide)] at e1
  obtain ⟨g1, g2⟩ := er_ix h0 h1 hn
  show W _ _ _ _ _ _ _ _ _ _ _ _ _ _ _ (F0 mm pc la (.int (Int32.ofInt x) :: .int (Int32.ofInt j) :: .ref (er_ad K c) :: st.map (er_cv K)))
  rw [er_ad_at hc]
  have e3 : vp_nar .boolean (Int32.ofInt x) = Int32.ofInt x := by rcases hx with rfl | rfl <;> rfl
  refine va_zast C.1 C.2.1 hW.2 hW.1 (er_ws_D K sh m) hS (c - 1) 1 e1 rfl g1 hd (fun H1 locs1 hP1 _ hS1 => ?_)
  rw [e3, g2, er_up_eq m c j x h0, er_ws_up (m' := er_st m c j x) hc (er_cell_n _ _ _ _ _ _ (by decide)).symm (fun c' hc' => by funext k; simp [er_st, hc'])] at hP1
  exact kk p e s mm args below meth c1 H1 locs1 la C hz ⟨hP1, hW.2⟩ hS1 hl
theorem er_aast {c k n r N ci : Nat} {rs rs2 : List (Option Nat)} {j : Int} (hc : er_at sh c = some (k, n, rs)) (hk : k = 3 ∧ ci = 0 ∨ k = 4 ∧ ci = 4) (hn : n ≤ 2147483648) (h0 : 0 ≤ j) (h1 : j < n) (hr : er_at sh r = some (ci + 5, N, rs2)) (hd : decode i.2.1 pc = .ok (.aastore, 1)) (kk : er_WP K i uc us sh (er_st m c j r) (pc + 1) ls st Z) : er_WP K i uc us sh m pc ls (.inr r :: .inl j :: .inr c :: st) Z := by
  intro p e s mm args below meth c1 H locs la C hz hW hS hl
  have e1 := er_ws_at (K := K) (m := m) hc
  rw [er_cell_q _ _ _ _ _ _ (by omega) (by omega)] at e1
  have e2 := er_ws_at (K := K) (m := m) hr
  rw [er_cell_obj] at e2
  obtain ⟨g1, g2⟩ := er_ix h0 h1 hn
  obtain ⟨r', hr', -⟩ := er_at_ne hr
  show W _ _ _ _ _ _ _ _ _ _ _ _ _ _ _ (F0 mm pc la (.ref (er_ad K r) :: .int (Int32.ofInt j) :: .ref (er_ad K c) :: st.map (er_cv K)))
  rw [er_ad_at hc, er_ad_at hr]
  have e4 : va_up (fun j : Nat => er_ro K (m c j).toNat) j.toNat (some (K.2.1 + r)) = fun q : Nat => er_ro K (er_st m c j r c q).toNat := by
    funext q
    unfold va_up er_st
    by_cases hq : q = j.toNat
    · subst hq
      rw [if_pos rfl, if_pos ⟨rfl, by omega⟩, Int.toNat_natCast]
      simp [er_ro, hr']
    · rw [if_neg hq, if_neg (fun h => hq (by omega))]
  have fin : ∀ (H1 : Heap) (locs1 : List Loc), va_P K.2.2.1 er_cl ((er_ws K sh m).set (c - 1) (K.2.1 + c, .inl (K.2.2.2.1 k, n, .inr (.inr (.inr (.inr (va_up (fun j : Nat => er_ro K (m c j).toNat) (Int32.ofInt j).toNatClampNeg (some (K.2.1 + r))))))))) H1 → va_S (er_A K) s.heap H1 locs1 → W p K.1 e i.2.2.2.2 s mm args below meth c1 H1 locs1 uc us (Z below args s) (F0 mm (pc + 1) la (st.map (er_cv K))) := by
    intro H1 locs1 hP1 hS1
    rw [g2, e4, er_ws_up (m' := er_st m c j r) hc (er_cell_q _ _ _ _ _ _ (by omega) (by omega)).symm (fun c' hc' => by funext k; simp [er_st, hc'])] at hP1
    exact kk p e s mm args below meth c1 H1 locs1 la C hz ⟨hP1, hW.2⟩ hS1 hl
  rcases hk with ⟨rfl, rfl⟩ | ⟨rfl, rfl⟩
  · exact va_astq (r := ("EscapeRouter$Board", er_FB, 7)) C.1 C.2.1 hW.2 hW.1 (er_ws_D K sh m) hS (c - 1) 3 (r - 1) 0 e1 rfl e2 rfl g1 hd (fun H1 locs1 hP1 _ hS1 => fin H1 locs1 hP1 hS1)
  · exact va_astq (r := ("EscapeRouter$Layering", er_FY, 9)) C.1 C.2.1 hW.2 hW.1 (er_ws_D K sh m) hS (c - 1) 4 (r - 1) 4 e1 rfl e2 rfl g1 hd (fun H1 locs1 hP1 _ hS1 => fin H1 locs1 hP1 hS1)
end ER2
