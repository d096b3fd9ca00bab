/-! what constructors do: new cells, final fields; the law's script -/
theorem er_ws_push (K : er_K) (sh : er_Sh) (m : er_M) (e : er_E) : er_ws K (sh ++ [e]) (er_clr m (sh.length + 1)) = er_ws K sh m ++ [(K.2.1 + (sh.length + 1), er_cell K (er_clr m (sh.length + 1)) (sh.length + 1) e)] := by
  apply List.ext_getElem?
  intro j
  rcases Nat.lt_trichotomy j sh.length with hj | hj | hj
  · rw [List.getElem?_append_left (by rw [er_ws_len]; exact hj)]
    simp only [er_ws, List.getElem?_map, List.getElem?_range hj, List.getElem?_range (show j < (sh ++ [e]).length by simp; omega), Option.map_some]
    have h1 : (sh ++ [e]).getD j (99, 0, []) = sh.getD j (99, 0, []) := by
      rw [List.getD_eq_getElem?_getD, List.getD_eq_getElem?_getD, List.getElem?_append_left hj]
    rw [h1]
    have h2 : er_clr m (sh.length + 1) (j + 1) = m (j + 1) := by
      funext q
      unfold er_clr
      rw [if_neg (by omega)]
    have : er_cell K (er_clr m (sh.length + 1)) (j + 1) (sh.getD j (99, 0, [])) = er_cell K m (j + 1) (sh.getD j (99, 0, [])) := by
      unfold er_cell er_fs er_fv
      simp only [h2]
    rw [this]
  · subst hj
    rw [List.getElem?_append_right (by rw [er_ws_len]; exact Nat.le_refl _), er_ws_len, Nat.sub_self]
    simp only [er_ws, List.getElem?_map, List.getElem?_range (show sh.length < (sh ++ [e]).length by simp), Option.map_some]
    have h1 : (sh ++ [e]).getD sh.length (99, 0, []) = e := by
      rw [List.getD_eq_getElem?_getD, List.getElem?_append_right (Nat.le_refl _), Nat.sub_self]
      rfl
    rw [h1]
    rfl
  · rw [List.getElem?_eq_none (by rw [er_ws_len]; simp; omega), List.getElem?_eq_none (by simp [er_ws_len]; omega)]
theorem er_ws_sr {K : er_K} {sh : er_Sh} {m : er_M} {c ci n k r : Nat} {rs : List (Option Nat)} (hc : er_at sh c = some (ci + 5, n, rs)) (hkl : k < rs.length) (hr : r ≠ 0) : (er_ws K sh m).set (c - 1) (K.2.1 + c, .inr (ci, (er_fs K m c n rs).set k (.ref (er_ad K r)))) = er_ws K (er_sr sh c k r) m := by
  obtain ⟨q, rfl, h1, h2⟩ := er_at_ne hc
  have hd : sh.getD q (99, 0, []) = (ci + 5, n, rs) := by rw [List.getD_eq_getElem?_getD, h1]; rfl
  have hs : er_sr sh (q + 1) k r = sh.set q (ci + 5, n, rs.set k (some r)) := by
    unfold er_sr
    simp only [hd]
  have hlen : (er_sr sh (q + 1) k r).length = sh.length := by rw [hs]; simp
  rw [Nat.add_sub_cancel]
  apply List.ext_getElem?
  intro j
  by_cases hj : j = q
  · subst hj
    rw [List.getElem?_set_self (by rw [er_ws_len]; exact h2)]
    have h5 : er_at (er_sr sh (j + 1) k r) (j + 1) = some (ci + 5, n, rs.set k (some r)) := by
      rw [hs]
      show (sh.set j _)[j]? = _
      rw [List.getElem?_set_self h2]
    have h6 := er_ws_at (K := K) (m := m) h5
    rw [Nat.add_sub_cancel, er_cell_obj] at h6
    rw [h6]
    congr 4
    refine er_fs_set ?_ (fun x _ hx => ?_)
    · rw [List.getD_eq_getElem?_getD, List.getElem?_set_self hkl]
      exact (er_ro_rf hr).symm
    · rw [List.getD_eq_getElem?_getD, List.getD_eq_getElem?_getD, List.getElem?_set_ne (Ne.symm hx)]
  · rw [List.getElem?_set_ne (Ne.symm hj)]
    by_cases hl : j < sh.length
    · simp only [er_ws, List.getElem?_map, hlen, List.getElem?_range hl, Option.map_some]
      have : (er_sr sh (q + 1) k r).getD j (99, 0, []) = sh.getD j (99, 0, []) := by
        rw [hs, List.getD_eq_getElem?_getD, List.getD_eq_getElem?_getD, List.getElem?_set_ne (Ne.symm hj)]
      rw [this]
    · rw [List.getElem?_eq_none (by rw [er_ws_len]; omega), List.getElem?_eq_none (by rw [er_ws_len, hlen]; omega)]
theorem er_W_push {K : er_K} {sh : er_Sh} {m : er_M} {s : State} {H H1 : Heap} {e : er_E} (hW : er_W K sh m s H) (hk : ∀ q, q < H.size → H1[q]? = H[q]?) (hn : va_at K.2.2.1 er_cl (K.2.1 + (sh.length + 1), er_cell K (er_clr m (sh.length + 1)) (sh.length + 1) e) H1) : er_W K (sh ++ [e]) (er_clr m (sh.length + 1)) s H1 := by
  refine ⟨?_, hW.2⟩
  rw [er_ws_push]
  refine va_P.app (hW.1.kept (fun k x hx => hk x.1 ((hW.1 k x hx).lt))) (fun k x hx => ?_)
  have hz : k < 1 := (List.getElem?_eq_some_iff.mp hx).1
  rw [show k = 0 by omega] at hx
  cases hx
  exact hn
theorem er_S_push {K : er_K} {H0 H H1 : Heap} {locs : List Loc} (hS : va_S (er_A K) H0 H locs) (hk : ∀ q, q < H.size → H1[q]? = H[q]?) (hz : H.size ≤ H1.size) : va_S (er_A K) H0 H1 locs :=
  ⟨Nat.le_trans hS.1 hz, fun x h1 h2 => (hk x (Nat.lt_of_lt_of_le h1 hS.1)).trans (hS.2.1 x h1 h2), hS.2.2⟩
section ER4
variable {K : er_K} {i : er_I} {uc us : Nat} {sh : er_Sh} {m : er_M} {pc : Nat} {ls : List (Option er_V)} {st : List er_V} {Z : List Frame → Array Value → State → State → Prop}
theorem er_newa {k : Nat} {n : Int} {atype : ArrayType} (hk : k < 3) (hat : newarray.typeOf atype = er_ty k) (harr : Cond.arrayClass (er_ty k) ∈ er_tb) (h0 : 0 ≤ n) (hn : n ≤ 10000) (hu : uc + 1 ≤ i.2.2.2.2.cells ∧ us + n.toNat ≤ i.2.2.2.2.slots) (hd : decode i.2.1 pc = .ok (.newarray atype, 2)) (kk : er_WP K i (uc + 1) (us + n.toNat) (sh ++ [(k, n.toNat, [])]) (er_clr m (sh.length + 1)) (pc + 2) ls (.inr (sh.length + 1) :: st) Z) : er_WP K i uc us sh m pc ls (.inl n :: st) Z := by
  intro p e s mm args below meth c1 H locs la C hz hW hS hl T hT X
  have hsz := er_size C.2.2.2.2.2.2.2.2.1 hz hW hS hT X
  have hts := C.2.2.2.2.2.2.2.1
  have hin : er_in n := ⟨by omega, by omega⟩
  have g2 : (Int32.ofInt n).toNatClampNeg = n.toNat := by rw [← Int32.toNat_toInt, er_toInt hin]
  refine va_newaK (g := F0 mm pc la ((Sum.inl n :: st).map (er_cv K))) (n := Int32.ofInt n) (rest := st.map (er_cv K)) C.1 C.2.1 (atype := atype) (by rw [hat]; exact hts _ harr) rfl hd rfl (N := n.toNat) ?_ g2 ?_ hu.1 hu.2 hsz (fun H' cA e1 z1 o1 hAr hNm => ?_) T hT X
  · intro h
    rw [← er_zero, er_ofInt_lt hin ⟨by omega, by omega⟩] at h
    omega
  · rw [hat]
    have : componentBytes (er_ty k) ≤ 8 := by rcases (by omega : k = 0 ∨ k = 1 ∨ k = 2) with rfl | rfl | rfl <;> decide
    have h2 : n.toNat * componentBytes (er_ty k) ≤ 10000 * 8 := Nat.mul_le_mul (by omega) this
    omega
  · rw [hat] at e1 hNm
    have hcA : cA = K.2.2.2.1 k := by
      rcases (by omega : k = 0 ∨ k = 1 ∨ k = 2) with rfl | rfl | rfl
      · exact Option.some.inj (hNm.symm.trans (hW.2.2 0 (_, .int) rfl).2)
      · exact Option.some.inj (hNm.symm.trans (hW.2.2 1 (_, .boolean) rfl).2)
      · exact Option.some.inj (hNm.symm.trans (hW.2.2 2 (_, .int) rfl).2)
    subst hcA
    have hd0 : defaultValue (er_ty k) = .int 0 := by rcases (by omega : k = 0 ∨ k = 1 ∨ k = 2) with rfl | rfl | rfl <;> rfl
    rw [hd0, show K.2.1 + 1 + sh.length = K.2.1 + (sh.length + 1) by omega] at e1
    have o2 : ∀ q, q < H.size → H'[q]? = H[q]? := fun q hq => o1 q (by omega)
    have hW1 : er_W K (sh ++ [(k, n.toNat, [])]) (er_clr m (sh.length + 1)) s H' := by
      refine er_W_push hW o2 ?_
      rw [er_cell_n _ _ _ _ _ _ hk]
      show H'[K.2.1 + (sh.length + 1)]? = some (vp_cell _ _)
      rw [vp_cell_i, e1]
      congr 2
      funext j
      unfold er_clr
      rw [if_pos rfl, er_zero]
    have := kk p e s mm args below meth c1 H' locs la C (by simp; omega) hW1 (er_S_push hS o2 (by omega)) hl
    rw [show K.2.1 + 1 + sh.length = er_ad K (sh.length + 1) by unfold er_ad; rw [if_neg (by omega)]; omega]
    exact this
theorem er_new {idx ci N : Nat} {C0 : String} {T0 : u_T} {t0 : Nat → FieldType} {rs0 : List (Option Nat)} (hcl : er_cl[ci]? = some (C0, T0, N)) (hin : ∀ w ∈ u_ws C0 T0 N, w ∈ er_tb) (hty : ∀ k, k < N → parseFieldDescriptor (T0 k).2.2.1 = some (t0 k)) (hM : Cond.classLink i.1.cls idx C0 ∈ er_tb ∧ Cond.instantiable C0 N ∈ er_tb ∧ Cond.initialized C0 ∈ er_tb) (hrs : ∀ j, j < N → (rs0.getD j none = none ∧ defaultValue (t0 j) = .int 0) ∨ (rs0.getD j none = some 0 ∧ defaultValue (t0 j) = .null)) (hu : uc + 1 ≤ i.2.2.2.2.cells ∧ us + N ≤ i.2.2.2.2.slots) (hd : decode i.2.1 pc = .ok (.new idx, 3)) (kk : er_WP K i (uc + 1) (us + N) (sh ++ [(ci + 5, N, rs0)]) (er_clr m (sh.length + 1)) (pc + 3) ls (.inr (sh.length + 1) :: st) Z) : er_WP K i uc us sh m pc ls st Z := by
  intro p e s mm args below meth c1 H locs la C hz hW hS hl T hT X
  have hsz := er_size C.2.2.2.2.2.2.2.2.1 hz hW hS hT X
  have hts := C.2.2.2.2.2.2.2.1
  have hKn := hW.2.1 ci _ hcl
  refine W.newcK (g := F0 mm pc la (st.map (er_cv K))) C.1 C.2.1 C.2.2.2.2.2.2.1 (hts _ hM.1) (hts _ hM.2.1) (hts _ hM.2.2) rfl hd hu.1 hu.2 hKn.2.1 hsz (fun H' kC hkC e1 z1 o1 => ?_) T hT X
  have o2 : ∀ q, q < H.size → H'[q]? = H[q]? := fun q hq => o1 q (by omega)
  rw [show K.2.1 + 1 + sh.length = K.2.1 + (sh.length + 1) by omega] at e1
  have hW1 : er_W K (sh ++ [(ci + 5, N, rs0)]) (er_clr m (sh.length + 1)) s H' := by
    refine er_W_push hW o2 ?_
    rw [er_cell_obj]
    refine ⟨_, hcl, (u_born t0 hts hin hKn hkC e1 hty).to (fun j hj => ?_)⟩
    show defaultValue (t0 j) = (er_fs K _ _ N rs0).getD j .null
    rw [List.getD_eq_getElem?_getD, er_fs_get hj]
    show _ = er_fv K _ _ j (rs0.getD j none)
    rcases hrs j hj with ⟨h1, h2⟩ | ⟨h1, h2⟩
    · rw [h1, h2]
      show Value.int 0 = Value.int (Int32.ofInt (er_clr m (sh.length + 1) (sh.length + 1) j))
      unfold er_clr
      rw [if_pos rfl, er_zero]
    · rw [h1, h2]
      rfl
  have := kk p e s mm args below meth c1 H' locs la C (by simp; omega) hW1 (er_S_push hS o2 (by omega)) hl
  rw [show K.2.1 + 1 + sh.length = er_ad K (sh.length + 1) by unfold er_ad; rw [if_neg (by omega)]; omega]
  exact this
theorem er_newq {idx k : Nat} {n : Int} {C0 : String} (hk : k = 3 ∧ C0 = "EscapeRouter$Board" ∨ k = 4 ∧ C0 = "EscapeRouter$Layering") (hM : Cond.classLink i.1.cls idx C0 ∈ er_tb) (h0 : 0 ≤ n) (hn : n ≤ 10000) (hu : uc + 1 ≤ i.2.2.2.2.cells ∧ us + n.toNat ≤ i.2.2.2.2.slots) (hd : decode i.2.1 pc = .ok (.anewarray idx, 3)) (kk : er_WP K i (uc + 1) (us + n.toNat) (sh ++ [(k, n.toNat, [])]) (er_clr m (sh.length + 1)) (pc + 3) ls (.inr (sh.length + 1) :: st) Z) : er_WP K i uc us sh m pc ls (.inl n :: st) Z := by
  intro p e s mm args below meth c1 H locs la C hz hW hS hl T hT X
  have hsz := er_size C.2.2.2.2.2.2.2.2.1 hz hW hS hT X
  have hts := C.2.2.2.2.2.2.2.1
  have hin : er_in n := ⟨by omega, by omega⟩
  have g2 : (Int32.ofInt n).toNatClampNeg = n.toNat := by rw [← Int32.toNat_toInt, er_toInt hin]
  have hover : va_AO C0 s := by
    rcases hk with ⟨-, rfl⟩ | ⟨-, rfl⟩
    · exact C.2.2.2.2.2.2.2.2.2.2.2.2.1
    · exact C.2.2.2.2.2.2.2.2.2.2.2.2.2
  refine W.anew (g := F0 mm pc la ((Sum.inl n :: st).map (er_cv K))) (n := Int32.ofInt n) (rest := st.map (er_cv K)) C.1 C.2.1 C.2.2.2.2.2.2.1 (hts _ hM) (va_AO.use hover) rfl hd rfl ?_ ?_ hu.1 (by rw [g2]; exact hu.2) (fun cA kA comp f1 f2 f3 f4 => ?_) T hT X
  · intro h
    rw [← er_zero, er_ofInt_lt hin ⟨by omega, by omega⟩] at h
    omega
  · rw [g2]
    omega
  · rw [g2]
    generalize hH1 : H.push ({ cls := cA, slots := Array.replicate n.toNat .null, vm := .none } : Cell) = H1
    have z1 : H1.size = H.size + 1 := by rw [← hH1, Array.size_push]
    have e1 : H1[H.size]? = some (arrV cA n.toNat (fun _ => .null)) := by rw [← hH1, Array.getElem?_push_size, ← arrV_new]
    have o2 : ∀ q : Nat, q < H.size → H1[q]? = H[q]? := fun q hq => by rw [← hH1, Array.getElem?_push, if_neg (Nat.ne_of_lt hq)]
    rw [hsz, show K.2.1 + 1 + sh.length = K.2.1 + (sh.length + 1) by omega] at e1
    have hcA : cA = K.2.2.2.1 k := by
      rcases hk with ⟨rfl, rfl⟩ | ⟨rfl, rfl⟩
      · obtain ⟨_, _, _, _, _, h4⟩ := (hW.2.2 3 (_, .object "EscapeRouter$Board") rfl).2
        exact Option.some.inj (f1.symm.trans h4)
      · obtain ⟨_, _, _, _, _, h4⟩ := (hW.2.2 4 (_, .object "EscapeRouter$Layering") rfl).2
        exact Option.some.inj (f1.symm.trans h4)
    subst hcA
    have hW1 : er_W K (sh ++ [(k, n.toNat, [])]) (er_clr m (sh.length + 1)) s H1 := by
      refine er_W_push hW o2 ?_
      rw [er_cell_q _ _ _ _ _ _ (by omega) (by omega)]
      show H1[K.2.1 + (sh.length + 1)]? = some (vp_cell _ _)
      rw [vp_cell_q, e1]
      congr 2
      funext j
      unfold er_clr
      rw [if_pos rfl]
      rfl
    have := kk p e s mm args below meth c1 H1 locs la C (by simp; omega) hW1 (er_S_push hS o2 (by omega)) hl
    rw [hsz, show K.2.1 + 1 + sh.length = er_ad K (sh.length + 1) by unfold er_ad; rw [if_neg (by omega)]; omega]
    exact this
theorem er_putFR {index ci k n c r : Nat} {rs : List (Option Nat)} {ty : FieldType} (hf : er_FL i.1.cls index ci k true ty) (hin : i.1.name = "<init>") (hown : (er_cl[ci]?).map (fun q => q.1) = some i.1.cls) (hc : er_at sh c = some (ci + 5, n, rs)) (hk : k < n) (hkl : k < rs.length) (hr0 : r ≠ 0) (hn : ∀ a, narrow ty (.ref a) = .ref a ∧ fits ty (.ref a) = true) (hd : decode i.2.1 pc = .ok (.putfield index, 3)) (kk : er_WP K i uc us (er_sr sh c k r) m (pc + 3) ls st Z) : er_WP K i uc us sh m pc ls (.inr r :: .inr c :: st) Z := by
  obtain ⟨C0, T, N, t0, h1, h2, h3, h4, h5, h6, h7, h8, h9⟩ := hf
  intro p e s mm args below meth c1 H locs la C hz hW hS hl
  have e1 := er_ws_at (K := K) (m := m) hc
  rw [er_cell_obj] at e1
  show W _ _ _ _ _ _ _ _ _ _ _ _ _ _ _ (F0 mm pc la (.ref (er_ad K r) :: .ref (er_ad K c) :: st.map (er_cv K)))
  rw [er_ad_at hc]
  have hdecl : (T k).1 = i.1.cls := by
    rw [h1] at hown
    rw [h9]
    exact Option.some.inj hown
  refine va_putF C.1 C.2.1 C.2.2.2.2.2.2.2.1 h3 t0 h5 h6 C.2.2.2.2.2.2.1 hW.2 hW.1 (er_ws_D K sh m) hS (c - 1) e1 h1 k h2 (C.2.2.2.2.2.2.2.1 _ h4) (fun _ h => h) h7 (C.2.2.2.2.2.1.trans hin) hdecl (ty := ty) (v := .ref (er_ad K r)) (by rw [h5 k h2, h8]) (hn _).1 (hn _).2 (by simp [er_fs]; exact hk) hd (fun H1 locs1 hP1 hD1 hS1 => ?_)
  rw [er_ws_sr hc hkl hr0] at hP1
  have hlen : (er_sr sh c k r).length = sh.length := by
    obtain ⟨q, rfl, -⟩ := er_at_ne hc
    unfold er_sr
    simp
  exact kk p e s mm args below meth c1 H1 locs1 la C (by rw [hlen]; exact hz) ⟨hP1, hW.2⟩ hS1 hl
theorem er_putFI {index ci k n c : Nat} {rs : List (Option Nat)} {x : Int} (hf : er_FL i.1.cls index ci k true .int) (hin : i.1.name = "<init>") (hown : (er_cl[ci]?).map (fun q => q.1) = some i.1.cls) (hc : er_at sh c = some (ci + 5, n, rs)) (hk : k < n) (hr : rs.getD k none = none) (hd : decode i.2.1 pc = .ok (.putfield index, 3)) (kk : er_WP K i uc us sh (er_st m c k x) (pc + 3) ls st Z) : er_WP K i uc us sh m pc ls (.inl x :: .inr c :: st) Z := by
  obtain ⟨C0, T, N, t0, h1, h2, h3, h4, h5, h6, h7, h8, h9⟩ := hf
  intro p e s mm args below meth c1 H locs la C hz hW hS hl
  have e1 := er_ws_at (K := K) (m := m) hc
  rw [er_cell_obj] at e1
  show W _ _ _ _ _ _ _ _ _ _ _ _ _ _ _ (F0 mm pc la (.int (Int32.ofInt x) :: .ref (er_ad K c) :: st.map (er_cv K)))
  rw [er_ad_at hc]
  have hdecl : (T k).1 = i.1.cls := by
    rw [h1] at hown
    rw [h9]
    exact Option.some.inj hown
  have eset : (er_ws K sh m).set (c - 1) (K.2.1 + c, .inr (ci, (er_fs K m c n rs).set k (.int (Int32.ofInt x)))) = er_ws K sh (er_st m c k x) := by
    refine er_ws_up hc ?_ (fun c' hc' => by funext j; simp [er_st, hc'])
    rw [er_cell_obj]
    congr 2
    refine er_fs_set (by rw [hr]; simp [er_fv, er_st]) (fun j _ hj => ?_)
    cases rs.getD j none with
    | some r => rfl
    | none =>
      show Value.int (Int32.ofInt (m c j)) = Value.int (Int32.ofInt (er_st m c k x c j))
      rw [show er_st m c k x c j = m c j from by unfold er_st; rw [if_neg (by omega)]]
  refine va_putF C.1 C.2.1 C.2.2.2.2.2.2.2.1 h3 t0 h5 h6 C.2.2.2.2.2.2.1 hW.2 hW.1 (er_ws_D K sh m) hS (c - 1) e1 h1 k h2 (C.2.2.2.2.2.2.2.1 _ h4) (fun _ h => h) h7 (C.2.2.2.2.2.1.trans hin) hdecl (ty := .int) (v := .int (Int32.ofInt x)) (by rw [h5 k h2, h8]) rfl rfl (by simp [er_fs]; exact hk) hd (fun H1 locs1 hP1 hD1 hS1 => ?_)
  rw [eset] at hP1
  exact kk p e s mm args below meth c1 H1 locs1 la C hz ⟨hP1, hW.2⟩ hS1 hl
theorem er_slen (hd : decode i.2.1 pc = .ok (.arraylength, 1)) (kk : er_WP K i uc us sh m (pc + 1) ls (.inl (K.2.2.2.2.2.1 : Nat) :: st) Z) : er_WP K i uc us sh m pc ls (.inr 0 :: st) Z := by
  intro p e s mm args below meth c1 H locs la C hz hW hS hl
  have hX := C.2.2.2.2.2.2.2.2.2
  have h := kk p e s mm args below meth c1 H locs la C hz hW hS hl
  have e1 : er_cv K (.inl ((K.2.2.2.2.2.1 : Nat) : Int)) = .int (Int32.ofNat K.2.2.2.2.2.1) := congrArg Value.int Int32.ofInt_eq_ofNat
  rw [List.map_cons, e1] at h
  exact va_slen C.1 C.2.1 hX.1 (Nat.lt_of_le_of_lt hX.2.1 C.2.2.2.2.2.2.2.2.1) (Nat.not_lt.mpr hX.2.1) hS hd h
theorem er_sld {j : Int} (h0 : 0 ≤ j) (h1 : j < (K.2.2.2.2.2.1 : Nat)) (hn : K.2.2.2.2.2.1 ≤ 2147483648) (hd : decode i.2.1 pc = .ok (.iaload, 1)) (kk : er_WP K i uc us sh m (pc + 1) ls (.inl (K.2.2.2.2.2.2 j.toNat).toInt :: st) Z) : er_WP K i uc us sh m pc ls (.inl j :: .inr 0 :: st) Z := by
  intro p e s mm args below meth c1 H locs la C hz hW hS hl
  have hX := C.2.2.2.2.2.2.2.2.2
  have h := kk p e s mm args below meth c1 H locs la C hz hW hS hl
  obtain ⟨g1, g2⟩ := er_ix h0 h1 hn
  have e1 : er_cv K (.inl (K.2.2.2.2.2.2 j.toNat).toInt) = .int (K.2.2.2.2.2.2 (Int32.ofInt j).toNatClampNeg) := by
    rw [g2]
    exact congrArg Value.int (Int32.ofInt_toInt _)
  rw [List.map_cons, e1] at h
  exact va_sld C.1 C.2.1 hX.1 (Nat.lt_of_le_of_lt hX.2.1 C.2.2.2.2.2.2.2.2.1) (Nat.not_lt.mpr hX.2.1) hS g1 hd h
end ER4
