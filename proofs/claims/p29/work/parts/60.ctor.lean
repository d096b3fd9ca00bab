/-! constructors: a fresh object at the end of the shape, and its arrays -/
theorem er_at_top {sh0 es : er_Sh} {k c : Nat} (hc : c = sh0.length + 1 + k) : er_at (sh0 ++ es) c = es[k]? := by
  subst hc
  rw [show sh0.length + 1 + k = (sh0.length + k) + 1 by omega]
  show (sh0 ++ es)[sh0.length + k]? = es[k]?
  rw [List.getElem?_append_right (by omega), show sh0.length + k - sh0.length = k by omega]
theorem er_sr_top {sh0 tl : er_Sh} {c j r : Nat} {e : er_E} (hc : c = sh0.length + 1) : er_sr (sh0 ++ e :: tl) c j r = sh0 ++ (e.1, e.2.1, e.2.2.set j (some r)) :: tl := by
  subst hc
  show (sh0 ++ e :: tl).set sh0.length _ = _
  rw [List.getD_eq_getElem?_getD, List.getElem?_append_right (Nat.le_refl _), Nat.sub_self, List.set_append_right _ _ (Nat.le_refl _), Nat.sub_self]
  rfl
/-- what a constructor has made of m0 so far: its object's numbers g, zeros behind -/
def er_zs (m0 : er_M) (c : Nat) (g : Int → Int) (d : Nat) (m : er_M) : Prop := er_kp (fun q _ => c ≤ q) m0 m ∧ (∀ k, m c k = g k) ∧ ∀ q k, c < q → q ≤ d → m q k = 0
theorem er_fresh {m : er_M} {c : Nat} (h : ∀ k, m c k = 0) : er_zs m c (fun _ => 0) c m := ⟨er_kp.rf, h, fun q k h1 h2 => by omega⟩
theorem er_zs.clr {m0 m : er_M} {c d : Nat} {g : Int → Int} (h : er_zs m0 c g d m) (hc : c ≤ d) : er_zs m0 c g (d + 1) (er_clr m (d + 1)) := by
  refine ⟨fun q k hq => ?_, fun k => ?_, fun q k h1 h2 => ?_⟩
  · show (if q = d + 1 then 0 else m q k) = _
    rw [if_neg (by omega)]
    exact h.1 q k hq
  · show (if c = d + 1 then 0 else m c k) = _
    rw [if_neg (by omega)]
    exact h.2.1 k
  · show (if q = d + 1 then 0 else m q k) = 0
    by_cases hq : q = d + 1
    · rw [if_pos hq]
    · rw [if_neg hq]; exact h.2.2 q k h1 (by omega)
theorem er_zs.st {m0 m : er_M} {c d : Nat} {g : Int → Int} {k v : Int} (h : er_zs m0 c g d m) : er_zs m0 c (er_u g k v) d (er_st m c k v) := by
  refine ⟨h.1.tr (er_kp.st (Nat.le_refl c)), fun j => ?_, fun q j h1 h2 => by rw [er_st_c (by omega)]; exact h.2.2 q j h1 h2⟩
  by_cases hj : j = k
  · rw [hj, er_st_s, er_u_s]
  · rw [er_st_k hj, er_u_n hj]; exact h.2.1 j
section ERCT
variable {K : er_K} {i : er_I} {uc us c d : Nat} {sh0 : er_Sh} {pc : Nat} {ls : List (Option er_V)} {st : List er_V} {Z : List Frame → Array Value → State → State → Prop} {m0 : er_M} {g : Int → Int}
theorem er_newaT {m : er_M} {es es' : er_Sh} {k r : Nat} {n : Int} {atype : ArrayType} (hk : k < 3) (hat : newarray.typeOf atype = er_ty k) (harr : Cond.arrayClass (er_ty k) ∈ er_tb) (h0 : 0 ≤ n) (hn : n ≤ 10000) (hu : uc + 1 ≤ i.2.2.2.2.cells ∧ us + n.toNat ≤ i.2.2.2.2.slots) (hz : er_zs m0 c g d m) (hr : d + 1 = r) (hl : sh0.length + es.length + 1 = r ∧ c ≤ d) (he : es ++ [(k, n.toNat, [])] = es') (hd : decode i.2.1 pc = .ok (.newarray atype, 2)) (kk : ∀ m', er_zs m0 c g r m' → er_WP K i (uc + 1) (us + n.toNat) (sh0 ++ es') m' (pc + 2) ls (.inr r :: st) Z) : er_WP K i uc us (sh0 ++ es) m pc ls (.inl n :: st) Z := by
  refine er_newa hk hat harr h0 hn hu hd ?_
  rw [List.append_assoc, he, List.length_append, hl.1]
  subst hr
  exact kk _ (hz.clr hl.2)
theorem er_putFRT {m : er_M} {index ci k n r : Nat} {rs rs' : List (Option Nat)} {tl : er_Sh} {ty : FieldType} (hf : er_FL i.1.cls index ci k true ty) (hin : i.1.name = "<init>") (hown : (er_cl[ci]?).map (fun q => q.1) = some i.1.cls) (hc : c = sh0.length + 1) (hk : k < n) (hkl : k < rs.length) (hr0 : r ≠ 0) (hn : ∀ a, narrow ty (.ref a) = .ref a ∧ fits ty (.ref a) = true) (hrs : rs.set k (some r) = rs') (hd : decode i.2.1 pc = .ok (.putfield index, 3)) (kk : er_WP K i uc us (sh0 ++ (ci + 5, n, rs') :: tl) m (pc + 3) ls st Z) : er_WP K i uc us (sh0 ++ (ci + 5, n, rs) :: tl) m pc ls (.inr r :: .inr c :: st) Z := by
  refine er_putFR hf hin hown (by rw [er_at_top (k := 0) hc]; rfl) hk hkl hr0 hn hd ?_
  rw [er_sr_top hc]
  subst hrs
  exact kk
theorem er_putFIT {m : er_M} {index ci k n : Nat} {rs : List (Option Nat)} {tl : er_Sh} {x : Int} (hf : er_FL i.1.cls index ci k true .int) (hin : i.1.name = "<init>") (hown : (er_cl[ci]?).map (fun q => q.1) = some i.1.cls) (hc : c = sh0.length + 1) (hk : k < n) (hr : rs.getD k none = none) (hz : er_zs m0 c g d m) (hd : decode i.2.1 pc = .ok (.putfield index, 3)) (kk : ∀ m', er_zs m0 c (er_u g k x) d m' → er_WP K i uc us (sh0 ++ (ci + 5, n, rs) :: tl) m' (pc + 3) ls st Z) : er_WP K i uc us (sh0 ++ (ci + 5, n, rs) :: tl) m pc ls (.inl x :: .inr c :: st) Z :=
  er_putFI hf hin hown (by rw [er_at_top (k := 0) hc]; rfl) hk hr hd (kk _ hz.st)
theorem er_putIT {m : er_M} {index ci k n : Nat} {rs : List (Option Nat)} {tl : er_Sh} {x : Int} (hf : er_FL i.1.cls index ci k false .int) (hc : c = sh0.length + 1) (hk : k < n) (hr : rs.getD k none = none) (hz : er_zs m0 c g d m) (hd : decode i.2.1 pc = .ok (.putfield index, 3)) (kk : ∀ m', er_zs m0 c (er_u g k x) d m' → er_WP K i uc us (sh0 ++ (ci + 5, n, rs) :: tl) m' (pc + 3) ls st Z) : er_WP K i uc us (sh0 ++ (ci + 5, n, rs) :: tl) m pc ls (.inl x :: .inr c :: st) Z :=
  er_putI hf (by rw [er_at_top (k := 0) hc]; rfl) hk hr hd (kk _ hz.st)
theorem er_putZT {m : er_M} {index ci k n : Nat} {rs : List (Option Nat)} {tl : er_Sh} {x : Int} (hf : er_FL i.1.cls index ci k false .boolean) (hc : c = sh0.length + 1) (hk : k < n) (hr : rs.getD k none = none) (hx : x = 0 ∨ x = 1) (hz : er_zs m0 c g d m) (hd : decode i.2.1 pc = .ok (.putfield index, 3)) (kk : ∀ m', er_zs m0 c (er_u g k x) d m' → er_WP K i uc us (sh0 ++ (ci + 5, n, rs) :: tl) m' (pc + 3) ls st Z) : er_WP K i uc us (sh0 ++ (ci + 5, n, rs) :: tl) m pc ls (.inl x :: .inr c :: st) Z :=
  er_putZ hf (by rw [er_at_top (k := 0) hc]; rfl) hk hr hx hd (kk _ hz.st)

theorem sp_N_init {m : er_M} {Q : er_Post} (hc : c = sh0.length + 1) (hz : ∀ k, m c k = 0) (hQ : ∀ m', er_zs m c (er_u (er_u (er_u (fun _ => 0) 8 0) 9 0) 10 0) (c + 8) m' → Q none (sh0 ++ [(1 + 5, 11, [some (c + 1), some (c + 2), some (c + 3), some (c + 4), some (c + 5), some (c + 6), some (c + 7), some (c + 8), none, none, none]), (0, 136, []), (0, 746, []), (0, 746, []), (0, 746, []), (0, 746, []), (0, 136, []), (0, 136, []), (0, 136, [])]) m') : er_Spec K mi_N_init [.inr c] (sh0 ++ [(1 + 5, 11, [some 0, some 0, some 0, some 0, some 0, some 0, some 0, some 0, none, none, none])]) m Q := by
  have z0 := er_fresh hz
  refine er_start (by decide) (Nat.le_of_ble_eq_true rfl) ?_
  show er_WP K mi_N_init 0 0 (sh0 ++ [(1 + 5, 11, [some 0, some 0, some 0, some 0, some 0, some 0, some 0, some 0, none, none, none])]) m 0 [some (.inr c)] [] _
  refine er_aload_n rfl rfl d_N_init_0 ?_
  refine er_obj mo_N_5 (Nat.le_of_ble_eq_true rfl) ⟨Nat.le_of_ble_eq_true rfl, Nat.le_of_ble_eq_true rfl⟩ d_N_init_1 ?_
  refine er_aload_n rfl rfl d_N_init_4 ?_
  refine er_sipush (by decide) d_N_init_5 ?_
  refine er_newaT (k := 0) (n := 136) (r := c + 1) (es' := [(1 + 5, 11, [some 0, some 0, some 0, some 0, some 0, some 0, some 0, some 0, none, none, none]), (0, 136, [])]) (Nat.le_of_ble_eq_true rfl) rfl ka_int (by decide) (by decide) ⟨Nat.le_of_ble_eq_true rfl, Nat.le_of_ble_eq_true rfl⟩ z0 rfl ⟨by rw [hc]; rfl, by omega⟩ rfl d_N_init_8 (fun m1 z1 => ?_)
  refine er_putFRT (rs' := [some (c + 1), some 0, some 0, some 0, some 0, some 0, some 0, some 0, none, none, none]) fl_N_11 rfl rfl hc (Nat.le_of_ble_eq_true rfl) (Nat.le_of_ble_eq_true rfl) (by omega) (fun a => ⟨rfl, rfl⟩) rfl d_N_init_10 ?_
  refine er_aload_n rfl rfl d_N_init_13 ?_
  refine er_sipush (by decide) d_N_init_14 ?_
  refine er_newaT (k := 0) (n := 746) (r := c + 2) (es' := [(1 + 5, 11, [some (c + 1), some 0, some 0, some 0, some 0, some 0, some 0, some 0, none, none, none]), (0, 136, []), (0, 746, [])]) (Nat.le_of_ble_eq_true rfl) rfl ka_int (by decide) (by decide) ⟨Nat.le_of_ble_eq_true rfl, Nat.le_of_ble_eq_true rfl⟩ z1 rfl ⟨by rw [hc]; rfl, by omega⟩ rfl d_N_init_17 (fun m2 z2 => ?_)
  refine er_putFRT (rs' := [some (c + 1), some (c + 2), some 0, some 0, some 0, some 0, some 0, some 0, none, none, none]) fl_N_15 rfl rfl hc (Nat.le_of_ble_eq_true rfl) (Nat.le_of_ble_eq_true rfl) (by omega) (fun a => ⟨rfl, rfl⟩) rfl d_N_init_19 ?_
  refine er_aload_n rfl rfl d_N_init_22 ?_
  refine er_sipush (by decide) d_N_init_23 ?_
  refine er_newaT (k := 0) (n := 746) (r := c + 3) (es' := [(1 + 5, 11, [some (c + 1), some (c + 2), some 0, some 0, some 0, some 0, some 0, some 0, none, none, none]), (0, 136, []), (0, 746, []), (0, 746, [])]) (Nat.le_of_ble_eq_true rfl) rfl ka_int (by decide) (by decide) ⟨Nat.le_of_ble_eq_true rfl, Nat.le_of_ble_eq_true rfl⟩ z2 rfl ⟨by rw [hc]; rfl, by omega⟩ rfl d_N_init_26 (fun m3 z3 => ?_)
  refine er_putFRT (rs' := [some (c + 1), some (c + 2), some (c + 3), some 0, some 0, some 0, some 0, some 0, none, none, none]) fl_N_18 rfl rfl hc (Nat.le_of_ble_eq_true rfl) (Nat.le_of_ble_eq_true rfl) (by omega) (fun a => ⟨rfl, rfl⟩) rfl d_N_init_28 ?_
  refine er_aload_n rfl rfl d_N_init_31 ?_
  refine er_sipush (by decide) d_N_init_32 ?_
  refine er_newaT (k := 0) (n := 746) (r := c + 4) (es' := [(1 + 5, 11, [some (c + 1), some (c + 2), some (c + 3), some 0, some 0, some 0, some 0, some 0, none, none, none]), (0, 136, []), (0, 746, []), (0, 746, []), (0, 746, [])]) (Nat.le_of_ble_eq_true rfl) rfl ka_int (by decide) (by decide) ⟨Nat.le_of_ble_eq_true rfl, Nat.le_of_ble_eq_true rfl⟩ z3 rfl ⟨by rw [hc]; rfl, by omega⟩ rfl d_N_init_35 (fun m4 z4 => ?_)
  refine er_putFRT (rs' := [some (c + 1), some (c + 2), some (c + 3), some (c + 4), some 0, some 0, some 0, some 0, none, none, none]) fl_N_21 rfl rfl hc (Nat.le_of_ble_eq_true rfl) (Nat.le_of_ble_eq_true rfl) (by omega) (fun a => ⟨rfl, rfl⟩) rfl d_N_init_37 ?_
  refine er_aload_n rfl rfl d_N_init_40 ?_
  refine er_sipush (by decide) d_N_init_41 ?_
  refine er_newaT (k := 0) (n := 746) (r := c + 5) (es' := [(1 + 5, 11, [some (c + 1), some (c + 2), some (c + 3), some (c + 4), some 0, some 0, some 0, some 0, none, none, none]), (0, 136, []), (0, 746, []), (0, 746, []), (0, 746, []), (0, 746, [])]) (Nat.le_of_ble_eq_true rfl) rfl ka_int (by decide) (by decide) ⟨Nat.le_of_ble_eq_true rfl, Nat.le_of_ble_eq_true rfl⟩ z4 rfl ⟨by rw [hc]; rfl, by omega⟩ rfl d_N_init_44 (fun m5 z5 => ?_)
  refine er_putFRT (rs' := [some (c + 1), some (c + 2), some (c + 3), some (c + 4), some (c + 5), some 0, some 0, some 0, none, none, none]) fl_N_24 rfl rfl hc (Nat.le_of_ble_eq_true rfl) (Nat.le_of_ble_eq_true rfl) (by omega) (fun a => ⟨rfl, rfl⟩) rfl d_N_init_46 ?_
  refine er_aload_n rfl rfl d_N_init_49 ?_
  refine er_sipush (by decide) d_N_init_50 ?_
  refine er_newaT (k := 0) (n := 136) (r := c + 6) (es' := [(1 + 5, 11, [some (c + 1), some (c + 2), some (c + 3), some (c + 4), some (c + 5), some 0, some 0, some 0, none, none, none]), (0, 136, []), (0, 746, []), (0, 746, []), (0, 746, []), (0, 746, []), (0, 136, [])]) (Nat.le_of_ble_eq_true rfl) rfl ka_int (by decide) (by decide) ⟨Nat.le_of_ble_eq_true rfl, Nat.le_of_ble_eq_true rfl⟩ z5 rfl ⟨by rw [hc]; rfl, by omega⟩ rfl d_N_init_53 (fun m6 z6 => ?_)
  refine er_putFRT (rs' := [some (c + 1), some (c + 2), some (c + 3), some (c + 4), some (c + 5), some (c + 6), some 0, some 0, none, none, none]) fl_N_27 rfl rfl hc (Nat.le_of_ble_eq_true rfl) (Nat.le_of_ble_eq_true rfl) (by omega) (fun a => ⟨rfl, rfl⟩) rfl d_N_init_55 ?_
  refine er_aload_n rfl rfl d_N_init_58 ?_
  refine er_sipush (by decide) d_N_init_59 ?_
  refine er_newaT (k := 0) (n := 136) (r := c + 7) (es' := [(1 + 5, 11, [some (c + 1), some (c + 2), some (c + 3), some (c + 4), some (c + 5), some (c + 6), some 0, some 0, none, none, none]), (0, 136, []), (0, 746, []), (0, 746, []), (0, 746, []), (0, 746, []), (0, 136, []), (0, 136, [])]) (Nat.le_of_ble_eq_true rfl) rfl ka_int (by decide) (by decide) ⟨Nat.le_of_ble_eq_true rfl, Nat.le_of_ble_eq_true rfl⟩ z6 rfl ⟨by rw [hc]; rfl, by omega⟩ rfl d_N_init_62 (fun m7 z7 => ?_)
  refine er_putFRT (rs' := [some (c + 1), some (c + 2), some (c + 3), some (c + 4), some (c + 5), some (c + 6), some (c + 7), some 0, none, none, none]) fl_N_30 rfl rfl hc (Nat.le_of_ble_eq_true rfl) (Nat.le_of_ble_eq_true rfl) (by omega) (fun a => ⟨rfl, rfl⟩) rfl d_N_init_64 ?_
  refine er_aload_n rfl rfl d_N_init_67 ?_
  refine er_sipush (by decide) d_N_init_68 ?_
  refine er_newaT (k := 0) (n := 136) (r := c + 8) (es' := [(1 + 5, 11, [some (c + 1), some (c + 2), some (c + 3), some (c + 4), some (c + 5), some (c + 6), some (c + 7), some 0, none, none, none]), (0, 136, []), (0, 746, []), (0, 746, []), (0, 746, []), (0, 746, []), (0, 136, []), (0, 136, []), (0, 136, [])]) (Nat.le_of_ble_eq_true rfl) rfl ka_int (by decide) (by decide) ⟨Nat.le_of_ble_eq_true rfl, Nat.le_of_ble_eq_true rfl⟩ z7 rfl ⟨by rw [hc]; rfl, by omega⟩ rfl d_N_init_71 (fun m8 z8 => ?_)
  refine er_putFRT (rs' := [some (c + 1), some (c + 2), some (c + 3), some (c + 4), some (c + 5), some (c + 6), some (c + 7), some (c + 8), none, none, none]) fl_N_33 rfl rfl hc (Nat.le_of_ble_eq_true rfl) (Nat.le_of_ble_eq_true rfl) (by omega) (fun a => ⟨rfl, rfl⟩) rfl d_N_init_73 ?_
  refine er_aload_n rfl rfl d_N_init_76 ?_
  refine er_iconst d_N_init_77 ?_
  refine er_putIT fl_N_36 hc (Nat.le_of_ble_eq_true rfl) rfl z8 d_N_init_78 (fun m9 z9 => ?_)
  refine er_aload_n rfl rfl d_N_init_81 ?_
  refine er_iconst d_N_init_82 ?_
  refine er_putIT fl_N_40 hc (Nat.le_of_ble_eq_true rfl) rfl z9 d_N_init_83 (fun m10 z10 => ?_)
  refine er_aload_n rfl rfl d_N_init_86 ?_
  refine er_iconst d_N_init_87 ?_
  refine er_putIT fl_N_43 hc (Nat.le_of_ble_eq_true rfl) rfl z10 d_N_init_88 (fun m11 z11 => ?_)
  exact er_vret rfl rfl (Nat.le_of_ble_eq_true rfl) d_N_init_91 (hQ m11 z11)
theorem sp_G_init {m : er_M} {Q : er_Post} (hc : c = sh0.length + 1) (hz : ∀ k, m c k = 0) (hQ : ∀ m', er_zs m c (er_u (er_u (er_u (fun _ => 0) 1 0) 2 0) 3 0) (c + 2) m' → Q none (sh0 ++ [(2 + 5, 5, [some (c + 1), none, none, none, some (c + 2)]), (0, 60, []), (0, 36, [])]) m') : er_Spec K mi_G_init [.inr c] (sh0 ++ [(2 + 5, 5, [some 0, none, none, none, some 0])]) m Q := by
  have z0 := er_fresh hz
  refine er_start (by decide) (Nat.le_of_ble_eq_true rfl) ?_
  show er_WP K mi_G_init 0 0 (sh0 ++ [(2 + 5, 5, [some 0, none, none, none, some 0])]) m 0 [some (.inr c)] [] _
  refine er_aload_n rfl rfl d_G_init_0 ?_
  refine er_obj mo_G_3 (Nat.le_of_ble_eq_true rfl) ⟨Nat.le_of_ble_eq_true rfl, Nat.le_of_ble_eq_true rfl⟩ d_G_init_1 ?_
  refine er_aload_n rfl rfl d_G_init_4 ?_
  refine er_bipush (by decide) d_G_init_5 ?_
  refine er_newaT (k := 0) (n := 60) (r := c + 1) (es' := [(2 + 5, 5, [some 0, none, none, none, some 0]), (0, 60, [])]) (Nat.le_of_ble_eq_true rfl) rfl ka_int (by decide) (by decide) ⟨Nat.le_of_ble_eq_true rfl, Nat.le_of_ble_eq_true rfl⟩ z0 rfl ⟨by rw [hc]; rfl, by omega⟩ rfl d_G_init_7 (fun m1 z1 => ?_)
  refine er_putFRT (rs' := [some (c + 1), none, none, none, some 0]) fl_G_11 rfl rfl hc (Nat.le_of_ble_eq_true rfl) (Nat.le_of_ble_eq_true rfl) (by omega) (fun a => ⟨rfl, rfl⟩) rfl d_G_init_9 ?_
  refine er_aload_n rfl rfl d_G_init_12 ?_
  refine er_iconst d_G_init_13 ?_
  refine er_putIT fl_G_15 hc (Nat.le_of_ble_eq_true rfl) rfl z1 d_G_init_14 (fun m2 z2 => ?_)
  refine er_aload_n rfl rfl d_G_init_17 ?_
  refine er_iconst d_G_init_18 ?_
  refine er_putIT fl_G_19 hc (Nat.le_of_ble_eq_true rfl) rfl z2 d_G_init_19 (fun m3 z3 => ?_)
  refine er_aload_n rfl rfl d_G_init_22 ?_
  refine er_iconst d_G_init_23 ?_
  refine er_putIT fl_G_22 hc (Nat.le_of_ble_eq_true rfl) rfl z3 d_G_init_24 (fun m4 z4 => ?_)
  refine er_aload_n rfl rfl d_G_init_27 ?_
  refine er_bipush (by decide) d_G_init_28 ?_
  refine er_newaT (k := 0) (n := 36) (r := c + 2) (es' := [(2 + 5, 5, [some (c + 1), none, none, none, some 0]), (0, 60, []), (0, 36, [])]) (Nat.le_of_ble_eq_true rfl) rfl ka_int (by decide) (by decide) ⟨Nat.le_of_ble_eq_true rfl, Nat.le_of_ble_eq_true rfl⟩ z4 rfl ⟨by rw [hc]; rfl, by omega⟩ rfl d_G_init_30 (fun m5 z5 => ?_)
  refine er_putFRT (rs' := [some (c + 1), none, none, none, some (c + 2)]) fl_G_25 rfl rfl hc (Nat.le_of_ble_eq_true rfl) (Nat.le_of_ble_eq_true rfl) (by omega) (fun a => ⟨rfl, rfl⟩) rfl d_G_init_32 ?_
  exact er_vret rfl rfl (Nat.le_of_ble_eq_true rfl) d_G_init_35 (hQ m5 z5)
theorem sp_Y_init {m : er_M} {s : Int} {Q : er_Post} (hc : c = sh0.length + 1) (hz : ∀ k, m c k = 0) (hQ : ∀ m', er_zs m c (er_u (er_u (er_u (er_u (er_u (fun _ => 0) 0 s) 2 0) 6 0) 7 0) 8 0) (c + 4) m' → Q none (sh0 ++ [(4 + 5, 9, [none, some (c + 1), none, some (c + 2), some (c + 3), some (c + 4), none, none, none]), (0, 36, []), (0, 36, []), (1, 36, []), (0, 36, [])]) m') : er_Spec K mi_Y_init [.inr c, .inl s] (sh0 ++ [(4 + 5, 9, [none, some 0, none, some 0, some 0, some 0, none, none, none])]) m Q := by
  have z0 := er_fresh hz
  refine er_start (by decide) (Nat.le_of_ble_eq_true rfl) ?_
  show er_WP K mi_Y_init 0 0 (sh0 ++ [(4 + 5, 9, [none, some 0, none, some 0, some 0, some 0, none, none, none])]) m 0 [some (.inr c), some (.inl s)] [] _
  refine er_aload_n rfl rfl d_Y_init_0 ?_
  refine er_obj mo_Y_3 (Nat.le_of_ble_eq_true rfl) ⟨Nat.le_of_ble_eq_true rfl, Nat.le_of_ble_eq_true rfl⟩ d_Y_init_1 ?_
  refine er_aload_n rfl rfl d_Y_init_4 ?_
  refine er_iload_n rfl rfl d_Y_init_5 ?_
  refine er_putFIT fl_Y_9 rfl rfl hc (Nat.le_of_ble_eq_true rfl) rfl z0 d_Y_init_6 (fun m1 z1 => ?_)
  refine er_aload_n rfl rfl d_Y_init_9 ?_
  refine er_bipush (by decide) d_Y_init_10 ?_
  refine er_newaT (k := 0) (n := 36) (r := c + 1) (es' := [(4 + 5, 9, [none, some 0, none, some 0, some 0, some 0, none, none, none]), (0, 36, [])]) (Nat.le_of_ble_eq_true rfl) rfl ka_int (by decide) (by decide) ⟨Nat.le_of_ble_eq_true rfl, Nat.le_of_ble_eq_true rfl⟩ z1 rfl ⟨by rw [hc]; rfl, by omega⟩ rfl d_Y_init_12 (fun m2 z2 => ?_)
  refine er_putFRT (rs' := [none, some (c + 1), none, some 0, some 0, some 0, none, none, none]) fl_Y_15 rfl rfl hc (Nat.le_of_ble_eq_true rfl) (Nat.le_of_ble_eq_true rfl) (by omega) (fun a => ⟨rfl, rfl⟩) rfl d_Y_init_14 ?_
  refine er_aload_n rfl rfl d_Y_init_17 ?_
  refine er_iconst d_Y_init_18 ?_
  refine er_putIT fl_Y_19 hc (Nat.le_of_ble_eq_true rfl) rfl z2 d_Y_init_19 (fun m3 z3 => ?_)
  refine er_aload_n rfl rfl d_Y_init_22 ?_
  refine er_bipush (by decide) d_Y_init_23 ?_
  refine er_newaT (k := 0) (n := 36) (r := c + 2) (es' := [(4 + 5, 9, [none, some (c + 1), none, some 0, some 0, some 0, none, none, none]), (0, 36, []), (0, 36, [])]) (Nat.le_of_ble_eq_true rfl) rfl ka_int (by decide) (by decide) ⟨Nat.le_of_ble_eq_true rfl, Nat.le_of_ble_eq_true rfl⟩ z3 rfl ⟨by rw [hc]; rfl, by omega⟩ rfl d_Y_init_25 (fun m4 z4 => ?_)
  refine er_putFRT (rs' := [none, some (c + 1), none, some (c + 2), some 0, some 0, none, none, none]) fl_Y_22 rfl rfl hc (Nat.le_of_ble_eq_true rfl) (Nat.le_of_ble_eq_true rfl) (by omega) (fun a => ⟨rfl, rfl⟩) rfl d_Y_init_27 ?_
  refine er_aload_n rfl rfl d_Y_init_30 ?_
  refine er_bipush (by decide) d_Y_init_31 ?_
  refine er_newaT (k := 1) (n := 36) (r := c + 3) (es' := [(4 + 5, 9, [none, some (c + 1), none, some (c + 2), some 0, some 0, none, none, none]), (0, 36, []), (0, 36, []), (1, 36, [])]) (Nat.le_of_ble_eq_true rfl) rfl ka_boolean (by decide) (by decide) ⟨Nat.le_of_ble_eq_true rfl, Nat.le_of_ble_eq_true rfl⟩ z4 rfl ⟨by rw [hc]; rfl, by omega⟩ rfl d_Y_init_33 (fun m5 z5 => ?_)
  refine er_putFRT (rs' := [none, some (c + 1), none, some (c + 2), some (c + 3), some 0, none, none, none]) fl_Y_25 rfl rfl hc (Nat.le_of_ble_eq_true rfl) (Nat.le_of_ble_eq_true rfl) (by omega) (fun a => ⟨rfl, rfl⟩) rfl d_Y_init_35 ?_
  refine er_aload_n rfl rfl d_Y_init_38 ?_
  refine er_bipush (by decide) d_Y_init_39 ?_
  refine er_newaT (k := 0) (n := 36) (r := c + 4) (es' := [(4 + 5, 9, [none, some (c + 1), none, some (c + 2), some (c + 3), some 0, none, none, none]), (0, 36, []), (0, 36, []), (1, 36, []), (0, 36, [])]) (Nat.le_of_ble_eq_true rfl) rfl ka_int (by decide) (by decide) ⟨Nat.le_of_ble_eq_true rfl, Nat.le_of_ble_eq_true rfl⟩ z5 rfl ⟨by rw [hc]; rfl, by omega⟩ rfl d_Y_init_41 (fun m6 z6 => ?_)
  refine er_putFRT (rs' := [none, some (c + 1), none, some (c + 2), some (c + 3), some (c + 4), none, none, none]) fl_Y_29 rfl rfl hc (Nat.le_of_ble_eq_true rfl) (Nat.le_of_ble_eq_true rfl) (by omega) (fun a => ⟨rfl, rfl⟩) rfl d_Y_init_43 ?_
  refine er_aload_n rfl rfl d_Y_init_46 ?_
  refine er_iconst d_Y_init_47 ?_
  refine er_putIT fl_Y_32 hc (Nat.le_of_ble_eq_true rfl) rfl z6 d_Y_init_48 (fun m7 z7 => ?_)
  refine er_aload_n rfl rfl d_Y_init_51 ?_
  refine er_iconst d_Y_init_52 ?_
  refine er_putZT fl_Y_35 hc (Nat.le_of_ble_eq_true rfl) rfl (Or.inl rfl) z7 d_Y_init_53 (fun m8 z8 => ?_)
  refine er_aload_n rfl rfl d_Y_init_56 ?_
  refine er_iconst d_Y_init_57 ?_
  refine er_putZT fl_Y_39 hc (Nat.le_of_ble_eq_true rfl) rfl (Or.inl rfl) z8 d_Y_init_58 (fun m9 z9 => ?_)
  exact er_vret rfl rfl (Nat.le_of_ble_eq_true rfl) d_Y_init_61 (hQ m9 z9)
end ERCT
