/-! constructors: the board, the reference -/
section ERCB
variable {K : er_K} {i : er_I} {uc us c d : Nat} {sh sh0 : er_Sh} {pc : Nat} {ls : List (Option er_V)} {st : List er_V} {Z : List Frame → Array Value → State → State → Prop}
theorem er_istG {m : er_M} {n : Nat} {x : Int} {ls2 : List (Option er_V)} (k : Fin 4) (hkn : (k : Nat) = n) (hn : n < i.2.2.1) (hl : ls.set n (some (.inl x)) = ls2) (hd : decode i.2.1 pc = .ok (.istore_n k, 1)) (kk : er_WP K i uc us sh m (pc + 1) ls2 st Z) : er_WP K i uc us sh m pc ls (.inl x :: st) Z := er_istore_n hkn hn hd (hl ▸ kk)
theorem er_incG {m : er_M} {n : Nat} {d x : Int} {ls2 : List (Option er_V)} (hl : ls[n]? = some (some (.inl x))) (hn : n < i.2.2.1) (hs : ls.set n (some (.inl (x + d))) = ls2) (hd : decode i.2.1 pc = .ok (.iinc n d, 3)) (kk : er_WP K i uc us sh m (pc + 3) ls2 st Z) : er_WP K i uc us sh m pc ls st Z := er_iinc hl hn hd (hs ▸ kk)
theorem er_place {m : er_M} {p0 p1 : Int} {Q : er_Post} (h : Q (some (.inl (p0 * 6 + p1))) sh m) : er_Spec K mi_R_placeOf [.inl p0, .inl p1] sh m Q := by
  refine er_start (by decide) (Nat.le_of_ble_eq_true rfl) ?_
  show er_WP K mi_R_placeOf 0 0 sh m 0 [some (.inl p0), some (.inl p1)] [] _
  refine er_iload_n rfl rfl d_R_placeOf_0 ?_
  refine er_bipush (by decide) d_R_placeOf_1 ?_
  refine er_imul d_R_placeOf_3 ?_
  refine er_iload_n rfl rfl d_R_placeOf_4 ?_
  refine er_iadd d_R_placeOf_5 ?_
  exact er_iret rfl rfl (Nat.zero_le _) d_R_placeOf_6 h
def er_k3 (r q j : Int) : Int := if j % 6 < 3 ∧ (j / 6 < r ∨ (j / 6 = r ∧ j % 6 < q)) then 1 else 0
theorem er_k3_t {r q j : Int} (h : j % 6 < 3 ∧ (j / 6 < r ∨ (j / 6 = r ∧ j % 6 < q))) : er_k3 r q j = 1 := if_pos h
theorem er_k3_f {r q j : Int} (h : ¬ (j % 6 < 3 ∧ (j / 6 < r ∨ (j / 6 = r ∧ j % 6 < q)))) : er_k3 r q j = 0 := if_neg h
theorem er_k3_eq {r q r' q' j : Int} (h : (j % 6 < 3 ∧ (j / 6 < r ∨ (j / 6 = r ∧ j % 6 < q))) ↔ (j % 6 < 3 ∧ (j / 6 < r' ∨ (j / 6 = r' ∧ j % 6 < q')))) : er_k3 r q j = er_k3 r' q' j := by
  by_cases hh : j % 6 < 3 ∧ (j / 6 < r ∨ (j / 6 = r ∧ j % 6 < q))
  · rw [er_k3_t hh, er_k3_t (h.mp hh)]
  · rw [er_k3_f hh, er_k3_f (fun z => hh (h.mpr z))]

theorem sp_B_init {m : er_M} {Q : er_Post} (hc : c = sh0.length + 1) (hz : ∀ k, m c k = 0) (hQ : ∀ m', er_kp (fun q _ => c ≤ q) m m' → m' c 0 = 3 → m' c 1 = 3 → m' c 2 = 1 → m' c 3 = 2 → (∀ j : Int, 0 ≤ j → j < 36 → m' (c + 1) j = er_k3 3 0 j ∧ m' (c + 2) j = -1 ∧ m' (c + 3) j = 0) → Q none (sh0 ++ [(0 + 5, 7, [none, none, none, none, some (c + 1), some (c + 2), some (c + 3)]), (0, 36, []), (0, 36, []), (1, 36, [])]) m') : er_Spec K mi_B_init [.inr c] (sh0 ++ [(0 + 5, 7, [none, none, none, none, some 0, some 0, some 0])]) m Q := by
  have a1 : er_at (sh0 ++ [(0 + 5, 7, [none, none, none, none, some (c + 1), some (c + 2), some (c + 3)]), (0, 36, []), (0, 36, []), (1, 36, [])]) (c + 0) = some (0 + 5, 7, [none, none, none, none, some (c + 1), some (c + 2), some (c + 3)]) := by rw [er_at_top (k := 0) (by omega)]; rfl
  have a2 : er_at (sh0 ++ [(0 + 5, 7, [none, none, none, none, some (c + 1), some (c + 2), some (c + 3)]), (0, 36, []), (0, 36, []), (1, 36, [])]) (c + 1) = some (0, 36, []) := by rw [er_at_top (k := 1) (by omega)]; rfl
  have a3 : er_at (sh0 ++ [(0 + 5, 7, [none, none, none, none, some (c + 1), some (c + 2), some (c + 3)]), (0, 36, []), (0, 36, []), (1, 36, [])]) (c + 2) = some (0, 36, []) := by rw [er_at_top (k := 2) (by omega)]; rfl
  generalize hsh : sh0 ++ [(0 + 5, 7, [none, none, none, none, some (c + 1), some (c + 2), some (c + 3)]), (0, 36, []), (0, 36, []), (1, 36, [])] = shB at a1 a2 a3 hQ
  -- a row
  have inner : ∀ (r : Nat) (m0 : er_M), r < 3 → (∀ m2, er_kp (fun q _ => q = c + 1) m0 m2 → (∀ j : Int, 0 ≤ j → j < 36 → m2 (c + 1) j = er_k3 ((r : Int) + 1) 0 j) → er_WP K mi_B_init 3 108 shB m2 113 [some (.inr c), some (.inl (r : Int)), some (.inl 3)] [] (er_Z K mi_B_init Q)) → ∀ (d q : Nat) (m1 : er_M), q + d = 3 → m0 c 1 = 3 → er_kp (fun q _ => q = c + 1) m0 m1 → (∀ j : Int, 0 ≤ j → j < 36 → m1 (c + 1) j = er_k3 r q j) → er_WP K mi_B_init 3 108 shB m1 88 [some (.inr c), some (.inl (r : Int)), some (.inl (q : Int))] [] (er_Z K mi_B_init Q) := by
    intro r m0 hr hnext d
    induction d with
    | zero =>
      intro q m1 hq h3 hk hj
      have e1 : m1 c 1 = 3 := by rw [hk c 1 (by omega)]; exact h3
      refine er_iload_n rfl rfl d_B_init_88 ?_
      refine er_aload_n rfl rfl d_B_init_89 ?_
      refine er_getI fl_B_15 a1 (Nat.le_of_ble_eq_true rfl) rfl d_B_init_90 ?_
      rw [show m1 c ((1 : Nat) : Int) = 3 from e1]
      refine er_icmp_ge (tgt := 113) (by decide) ⟨by omega, by omega⟩ (by decide) d_B_init_93 (fun _ => ?_) (fun hlt => by omega)
      rw [show (q : Int) = 3 by omega]
      refine hnext m1 hk (fun j j0 j1 => ?_)
      rw [hj j j0 j1]
      exact er_k3_eq (by omega)
    | succ d ih =>
      intro q m1 hq h3 hk hj
      have e1 : m1 c 1 = 3 := by rw [hk c 1 (by omega)]; exact h3
      refine er_iload_n rfl rfl d_B_init_88 ?_
      refine er_aload_n rfl rfl d_B_init_89 ?_
      refine er_getI fl_B_15 a1 (Nat.le_of_ble_eq_true rfl) rfl d_B_init_90 ?_
      rw [show m1 c ((1 : Nat) : Int) = 3 from e1]
      refine er_icmp_ge (tgt := 113) (by decide) ⟨by omega, by omega⟩ (by decide) d_B_init_93 (fun hge => by omega) (fun _ => ?_)
      refine er_aload_n rfl rfl d_B_init_96 ?_
      refine er_getR fl_B_24 a1 (Nat.le_of_ble_eq_true rfl) rfl (by omega) d_B_init_97 ?_
      refine er_iload_n rfl rfl d_B_init_100 ?_
      refine er_iload_n rfl rfl d_B_init_101 ?_
      refine er_callN (As := [.inl (r : Int), .inl (q : Int)]) (Q := fun v s2 m2 => v = some (.inl ((r : Int) * 6 + q)) ∧ s2 = shB ∧ m2 = m1) ml_B_35 mw_R_placeOf md_R_placeOf rfl rfl (Nat.le_of_ble_eq_true rfl) ⟨Nat.le_of_ble_eq_true rfl, Nat.le_of_ble_eq_true rfl⟩ ⟨Nat.le_of_ble_eq_true rfl, Nat.le_of_ble_eq_true rfl⟩ d_B_init_102 (er_place ⟨rfl, rfl, rfl⟩) (fun v s2 m2 hq2 => ?_)
      obtain ⟨rfl, rfl, rfl⟩ := hq2
      refine er_iconst d_B_init_105 ?_
      refine er_iast a2 (by decide) (by omega) (by omega) d_B_init_106 ?_
      refine er_incG (ls2 := [some (.inr c), some (.inl (r : Int)), some (.inl ((q + 1 : Nat) : Int))]) rfl (Nat.le_of_ble_eq_true rfl) rfl d_B_init_107 ?_
      refine er_goto (tgt := 88) (by decide) d_B_init_110 ?_
      refine ih (q + 1) _ (by omega) h3 (hk.tr (er_kp.st rfl)) (fun j j0 j1 => ?_)
      by_cases hjj : j = (r : Int) * 6 + q
      · rw [hjj, er_st_s, er_k3_t (by omega)]
      · rw [er_st_k hjj, hj j j0 j1]
        exact er_k3_eq (by omega)
  -- all rows
  have rows : ∀ (d r : Nat) (m1 : er_M) (l2 : Option er_V), r + d = 3 → er_kp (fun q _ => c ≤ q) m m1 → m1 c 0 = 3 → m1 c 1 = 3 → m1 c 2 = 1 → m1 c 3 = 2 → (∀ j : Int, 0 ≤ j → j < 36 → m1 (c + 1) j = er_k3 r 0 j ∧ m1 (c + 2) j = -1 ∧ m1 (c + 3) j = 0) → er_WP K mi_B_init 3 108 shB m1 78 [some (.inr c), some (.inl (r : Int)), l2] [] (er_Z K mi_B_init Q) := by
    intro d
    induction d with
    | zero =>
      intro r m1 l2 hr hk h0 h1 h2 h3 hj
      refine er_iload_n rfl rfl d_B_init_78 ?_
      refine er_aload_n rfl rfl d_B_init_79 ?_
      refine er_getI fl_B_9 a1 (Nat.le_of_ble_eq_true rfl) rfl d_B_init_80 ?_
      rw [show m1 c ((0 : Nat) : Int) = 3 from h0]
      refine er_icmp_ge (tgt := 119) (by decide) ⟨by omega, by omega⟩ (by decide) d_B_init_83 (fun _ => ?_) (fun hlt => by omega)
      have hr3 : (r : Int) = 3 := by omega
      rw [hr3] at hj
      exact er_vret rfl rfl (Nat.le_of_ble_eq_true rfl) d_B_init_119 (hQ m1 hk h0 h1 h2 h3 hj)
    | succ d ih =>
      intro r m1 l2 hr hk h0 h1 h2 h3 hj
      refine er_iload_n rfl rfl d_B_init_78 ?_
      refine er_aload_n rfl rfl d_B_init_79 ?_
      refine er_getI fl_B_9 a1 (Nat.le_of_ble_eq_true rfl) rfl d_B_init_80 ?_
      rw [show m1 c ((0 : Nat) : Int) = 3 from h0]
      refine er_icmp_ge (tgt := 119) (by decide) ⟨by omega, by omega⟩ (by decide) d_B_init_83 (fun hge => by omega) (fun _ => ?_)
      refine er_iconst d_B_init_86 ?_
      refine er_istG (ls2 := [some (.inr c), some (.inl (r : Int)), some (.inl 0)]) 2 rfl (Nat.le_of_ble_eq_true rfl) rfl d_B_init_87 ?_
      refine inner r m1 (by omega) (fun m2 k2 hj2 => ?_) 3 0 m1 rfl h1 er_kp.rf (fun j j0 j1 => (hj j j0 j1).1)
      refine er_incG (ls2 := [some (.inr c), some (.inl ((r + 1 : Nat) : Int)), some (.inl 3)]) rfl (Nat.le_of_ble_eq_true rfl) rfl d_B_init_113 ?_
      refine er_goto (tgt := 78) (by decide) d_B_init_116 ?_
      exact ih (r + 1) m2 _ (by omega) (hk.tr (k2.wk (fun q k z => by omega))) (by rw [k2 c 0 (by omega)]; exact h0) (by rw [k2 c 1 (by omega)]; exact h1) (by rw [k2 c 2 (by omega)]; exact h2) (by rw [k2 c 3 (by omega)]; exact h3) (fun j j0 j1 => ⟨hj2 j j0 j1, by rw [k2 _ _ (by omega)]; exact (hj j j0 j1).2.1, by rw [k2 _ _ (by omega)]; exact (hj j j0 j1).2.2⟩)
  -- no partners
  have wipe : ∀ (d x : Nat) (m1 : er_M), x + d = 36 → er_kp (fun q _ => c ≤ q) m m1 → m1 c 0 = 3 → m1 c 1 = 3 → m1 c 2 = 1 → m1 c 3 = 2 → (∀ j : Int, 0 ≤ j → j < 36 → m1 (c + 1) j = 0 ∧ (j < x → m1 (c + 2) j = -1) ∧ m1 (c + 3) j = 0) → er_WP K mi_B_init 3 108 shB m1 50 [some (.inr c), some (.inl (x : Int)), none] [] (er_Z K mi_B_init Q) := by
    intro d
    induction d with
    | zero =>
      intro x m1 hx hk h0 h1 h2 h3 hj
      refine er_iload_n rfl rfl d_B_init_50 ?_
      refine er_bipush (by decide) d_B_init_51 ?_
      refine er_icmp_ge (tgt := 76) (by decide) ⟨by omega, by omega⟩ (by decide) d_B_init_53 (fun _ => ?_) (fun hlt => by omega)
      refine er_iconst d_B_init_76 ?_
      refine er_istG (ls2 := [some (.inr c), some (.inl 0), none]) 1 rfl (Nat.le_of_ble_eq_true rfl) rfl d_B_init_77 ?_
      refine rows 3 0 m1 none rfl hk h0 h1 h2 h3 (fun j j0 j1 => ?_)
      obtain ⟨b1, b2, b3⟩ := hj j j0 j1
      exact ⟨by rw [b1, er_k3_f (by omega)], b2 (by omega), b3⟩
    | succ d ih =>
      intro x m1 hx hk h0 h1 h2 h3 hj
      refine er_iload_n rfl rfl d_B_init_50 ?_
      refine er_bipush (by decide) d_B_init_51 ?_
      refine er_icmp_ge (tgt := 76) (by decide) ⟨by omega, by omega⟩ (by decide) d_B_init_53 (fun hge => by omega) (fun _ => ?_)
      refine er_aload_n rfl rfl d_B_init_56 ?_
      refine er_getR fl_B_24 a1 (Nat.le_of_ble_eq_true rfl) rfl (by omega) d_B_init_57 ?_
      refine er_iload_n rfl rfl d_B_init_60 ?_
      refine er_iconst d_B_init_61 ?_
      refine er_iast a2 (by decide) (by omega) (by omega) d_B_init_62 ?_
      refine er_aload_n rfl rfl d_B_init_63 ?_
      refine er_getR fl_B_28 a1 (Nat.le_of_ble_eq_true rfl) rfl (by omega) d_B_init_64 ?_
      refine er_iload_n rfl rfl d_B_init_67 ?_
      refine er_iconst d_B_init_68 ?_
      refine er_iast a3 (by decide) (by omega) (by omega) d_B_init_69 ?_
      refine er_incG (ls2 := [some (.inr c), some (.inl ((x + 1 : Nat) : Int)), none]) rfl (Nat.le_of_ble_eq_true rfl) rfl d_B_init_70 ?_
      refine er_goto (tgt := 50) (by decide) d_B_init_73 ?_
      refine ih (x + 1) _ (by omega) (hk.tr ((er_kp.st (by omega)).tr (er_kp.st (by omega)))) (by rw [er_st_c (by omega), er_st_c (by omega)]; exact h0) (by rw [er_st_c (by omega), er_st_c (by omega)]; exact h1) (by rw [er_st_c (by omega), er_st_c (by omega)]; exact h2) (by rw [er_st_c (by omega), er_st_c (by omega)]; exact h3) (fun j j0 j1 => ⟨?_, fun hjx => ?_, ?_⟩)
      · rw [er_st_c (by omega)]
        by_cases hjj : j = x
        · rw [hjj, er_st_s]
        · rw [er_st_k hjj]; exact (hj j j0 j1).1
      · by_cases hjj : j = x
        · rw [hjj, er_st_s]
        · rw [er_st_k hjj, er_st_c (by omega)]; exact (hj j j0 j1).2.1 (by omega)
      · rw [er_st_c (by omega), er_st_c (by omega)]; exact (hj j j0 j1).2.2
  have z0 := er_fresh hz
  refine er_start (by decide) (Nat.le_of_ble_eq_true rfl) ?_
  show er_WP K mi_B_init 0 0 (sh0 ++ [(0 + 5, 7, [none, none, none, none, some 0, some 0, some 0])]) m 0 [some (.inr c), none, none] [] _

  refine er_aload_n rfl rfl d_B_init_0 ?_
  refine er_obj mo_B_3 (Nat.le_of_ble_eq_true rfl) ⟨Nat.le_of_ble_eq_true rfl, Nat.le_of_ble_eq_true rfl⟩ d_B_init_1 ?_
  refine er_aload_n rfl rfl d_B_init_4 ?_
  refine er_iconst d_B_init_5 ?_
  refine er_putIT fl_B_9 hc (Nat.le_of_ble_eq_true rfl) rfl z0 d_B_init_6 (fun m1 z1 => ?_)
  refine er_aload_n rfl rfl d_B_init_9 ?_
  refine er_iconst d_B_init_10 ?_
  refine er_putIT fl_B_15 hc (Nat.le_of_ble_eq_true rfl) rfl z1 d_B_init_11 (fun m2 z2 => ?_)
  refine er_aload_n rfl rfl d_B_init_14 ?_
  refine er_iconst d_B_init_15 ?_
  refine er_putIT fl_B_18 hc (Nat.le_of_ble_eq_true rfl) rfl z2 d_B_init_16 (fun m3 z3 => ?_)
  refine er_aload_n rfl rfl d_B_init_19 ?_
  refine er_iconst d_B_init_20 ?_
  refine er_putIT fl_B_21 hc (Nat.le_of_ble_eq_true rfl) rfl z3 d_B_init_21 (fun m4 z4 => ?_)
  refine er_aload_n rfl rfl d_B_init_24 ?_
  refine er_bipush (by decide) d_B_init_25 ?_
  refine er_newaT (k := 0) (n := 36) (r := c + 1) (es' := [(0 + 5, 7, [none, none, none, none, some 0, some 0, some 0]), (0, 36, [])]) (Nat.le_of_ble_eq_true rfl) rfl ka_int (by decide) (by decide) ⟨Nat.le_of_ble_eq_true rfl, Nat.le_of_ble_eq_true rfl⟩ z4 rfl ⟨by rw [hc]; rfl, by omega⟩ rfl d_B_init_27 (fun m5 z5 => ?_)
  refine er_putFRT (rs' := [none, none, none, none, some (c + 1), some 0, some 0]) fl_B_24 rfl rfl hc (Nat.le_of_ble_eq_true rfl) (Nat.le_of_ble_eq_true rfl) (by omega) (fun a => ⟨rfl, rfl⟩) rfl d_B_init_29 ?_
  refine er_aload_n rfl rfl d_B_init_32 ?_
  refine er_bipush (by decide) d_B_init_33 ?_
  refine er_newaT (k := 0) (n := 36) (r := c + 2) (es' := [(0 + 5, 7, [none, none, none, none, some (c + 1), some 0, some 0]), (0, 36, []), (0, 36, [])]) (Nat.le_of_ble_eq_true rfl) rfl ka_int (by decide) (by decide) ⟨Nat.le_of_ble_eq_true rfl, Nat.le_of_ble_eq_true rfl⟩ z5 rfl ⟨by rw [hc]; rfl, by omega⟩ rfl d_B_init_35 (fun m6 z6 => ?_)
  refine er_putFRT (rs' := [none, none, none, none, some (c + 1), some (c + 2), some 0]) fl_B_28 rfl rfl hc (Nat.le_of_ble_eq_true rfl) (Nat.le_of_ble_eq_true rfl) (by omega) (fun a => ⟨rfl, rfl⟩) rfl d_B_init_37 ?_
  refine er_aload_n rfl rfl d_B_init_40 ?_
  refine er_bipush (by decide) d_B_init_41 ?_
  refine er_newaT (k := 1) (n := 36) (r := c + 3) (es' := [(0 + 5, 7, [none, none, none, none, some (c + 1), some (c + 2), some 0]), (0, 36, []), (0, 36, []), (1, 36, [])]) (Nat.le_of_ble_eq_true rfl) rfl ka_boolean (by decide) (by decide) ⟨Nat.le_of_ble_eq_true rfl, Nat.le_of_ble_eq_true rfl⟩ z6 rfl ⟨by rw [hc]; rfl, by omega⟩ rfl d_B_init_43 (fun m7 z7 => ?_)
  refine er_putFRT (rs' := [none, none, none, none, some (c + 1), some (c + 2), some (c + 3)]) fl_B_31 rfl rfl hc (Nat.le_of_ble_eq_true rfl) (Nat.le_of_ble_eq_true rfl) (by omega) (fun a => ⟨rfl, rfl⟩) rfl d_B_init_45 ?_
  rw [hsh]
  refine er_iconst d_B_init_48 ?_
  refine er_istG (ls2 := [some (.inr c), some (.inl 0), none]) 1 rfl (Nat.le_of_ble_eq_true rfl) rfl d_B_init_49 ?_
  refine wipe 36 0 m7 rfl z7.1 (by rw [z7.2.1]; rfl) (by rw [z7.2.1]; rfl) (by rw [z7.2.1]; rfl) (by rw [z7.2.1]; rfl) (fun j j0 j1 => ⟨z7.2.2 _ _ (by omega) (by omega), fun hlt => by omega, z7.2.2 _ _ (by omega) (by omega)⟩)

end ERCB
