/-! constructors: the router -/

theorem er_rsN : ∀ j, j < 11 → ([some 0, some 0, some 0, some 0, some 0, some 0, some 0, some 0, none, none, none].getD j none = none ∧ defaultValue (er_tN j) = .int 0) ∨ ([some 0, some 0, some 0, some 0, some 0, some 0, some 0, some 0, none, none, none].getD j none = some 0 ∧ defaultValue (er_tN j) = .null) := by
  intro j hj
  rcases (by omega : j = 0 ∨ j = 1 ∨ j = 2 ∨ j = 3 ∨ j = 4 ∨ j = 5 ∨ j = 6 ∨ j = 7 ∨ j = 8 ∨ j = 9 ∨ j = 10) with e | e | e | e | e | e | e | e | e | e | e <;> subst e <;> first | exact Or.inl ⟨rfl, rfl⟩ | exact Or.inr ⟨rfl, rfl⟩

theorem er_rsG : ∀ j, j < 5 → ([some 0, none, none, none, some 0].getD j none = none ∧ defaultValue (er_tG j) = .int 0) ∨ ([some 0, none, none, none, some 0].getD j none = some 0 ∧ defaultValue (er_tG j) = .null) := by
  intro j hj
  rcases (by omega : j = 0 ∨ j = 1 ∨ j = 2 ∨ j = 3 ∨ j = 4) with e | e | e | e | e <;> subst e <;> first | exact Or.inl ⟨rfl, rfl⟩ | exact Or.inr ⟨rfl, rfl⟩

theorem er_rsY : ∀ j, j < 9 → ([none, some 0, none, some 0, some 0, some 0, none, none, none].getD j none = none ∧ defaultValue (er_tY j) = .int 0) ∨ ([none, some 0, none, some 0, some 0, some 0, none, none, none].getD j none = some 0 ∧ defaultValue (er_tY j) = .null) := by
  intro j hj
  rcases (by omega : j = 0 ∨ j = 1 ∨ j = 2 ∨ j = 3 ∨ j = 4 ∨ j = 5 ∨ j = 6 ∨ j = 7 ∨ j = 8) with e | e | e | e | e | e | e | e | e <;> subst e <;> first | exact Or.inl ⟨rfl, rfl⟩ | exact Or.inr ⟨rfl, rfl⟩

theorem er_rsH : ∀ j, j < 2 → ([some 0, none].getD j none = none ∧ defaultValue (er_tH j) = .int 0) ∨ ([some 0, none].getD j none = some 0 ∧ defaultValue (er_tH j) = .null) := by
  intro j hj
  rcases (by omega : j = 0 ∨ j = 1) with e | e <;> subst e <;> first | exact Or.inl ⟨rfl, rfl⟩ | exact Or.inr ⟨rfl, rfl⟩

theorem er_rsR : ∀ j, j < 10 → ([some 0, some 0, some 0, some 0, some 0, some 0, some 0, none, none, none].getD j none = none ∧ defaultValue (er_tR j) = .int 0) ∨ ([some 0, some 0, some 0, some 0, some 0, some 0, some 0, none, none, none].getD j none = some 0 ∧ defaultValue (er_tR j) = .null) := by
  intro j hj
  rcases (by omega : j = 0 ∨ j = 1 ∨ j = 2 ∨ j = 3 ∨ j = 4 ∨ j = 5 ∨ j = 6 ∨ j = 7 ∨ j = 8 ∨ j = 9) with e | e | e | e | e | e | e | e | e | e <;> subst e <;> first | exact Or.inl ⟨rfl, rfl⟩ | exact Or.inr ⟨rfl, rfl⟩

/-- the router and n cells behind it -/
def er_shR (rs : List (Option Nat)) (n : Nat) : er_Sh := (5 + 5, 10, rs) :: (er_SH.drop 1).take n
def er_b0 : er_Bo := (3, 3, 1, 2, er_k3 3 0, fun _ => -1, fun _ => 0)
theorem er_BV_0 : er_BV er_b0 := by
  refine ⟨by decide, by decide, by decide, by decide, by decide, by decide, by decide, by decide, fun j j0 j1 => ?_, fun j j0 j1 hn => ?_, fun _ _ _ => Or.inl rfl, fun _ _ _ => Or.inl rfl⟩
  · show 0 ≤ er_k3 3 0 j ∧ er_k3 3 0 j ≤ 2
    unfold er_k3
    split <;> decide
  · show er_k3 3 0 j = 0
    exact er_k3_f (fun z => hn (show j / 6 < ((3 : Nat) : Int) ∧ j % 6 < ((3 : Nat) : Int) by omega))

theorem er_shR_1 : ∀ x, x < 4 → (er_shR [some 2, some 6, some 40, some 43, some 52, some 61, some 0, none, none, none] (60 + 5 * x)).length + 1 = 62 + 5 * x := by
  intro x hx
  rcases (by omega : x = 0 ∨ x = 1 ∨ x = 2 ∨ x = 3) with e | e | e | e <;> subst e <;> rfl
theorem er_shR_2 : ∀ x, x < 4 → er_shR [some 2, some 6, some 40, some 43, some 52, some 61, some 0, none, none, none] (60 + 5 * x) ++ [(4 + 5, 9, [none, some (62 + 5 * x + 1), none, some (62 + 5 * x + 2), some (62 + 5 * x + 3), some (62 + 5 * x + 4), none, none, none]), (0, 36, []), (0, 36, []), (1, 36, []), (0, 36, [])] = er_shR [some 2, some 6, some 40, some 43, some 52, some 61, some 0, none, none, none] (60 + 5 * (x + 1)) := by
  intro x hx
  rcases (by omega : x = 0 ∨ x = 1 ∨ x = 2 ∨ x = 3) with e | e | e | e <;> subst e <;> rfl
theorem er_shR_3 : ∀ x, x < 4 → er_at (er_shR [some 2, some 6, some 40, some 43, some 52, some 61, some 0, none, none, none] (60 + 5 * (x + 1))) 61 = some (4, 4, []) ∧ er_at (er_shR [some 2, some 6, some 40, some 43, some 52, some 61, some 0, none, none, none] (60 + 5 * (x + 1))) (62 + 5 * x) = some (4 + 5, 9, [none, some (62 + 5 * x + 1), none, some (62 + 5 * x + 2), some (62 + 5 * x + 3), some (62 + 5 * x + 4), none, none, none]) := by
  intro x hx
  rcases (by omega : x = 0 ∨ x = 1 ∨ x = 2 ∨ x = 3) with e | e | e | e <;> subst e <;> exact ⟨rfl, rfl⟩
theorem er_shR_4 : ∀ x, x < 5 → er_at (er_shR [some 2, some 6, some 40, some 43, some 52, some 61, some 0, none, none, none] (60 + 5 * x)) 1 = some (5 + 5, 10, [some 2, some 6, some 40, some 43, some 52, some 61, some 0, none, none, none]) := by
  intro x hx
  rcases (by omega : x = 0 ∨ x = 1 ∨ x = 2 ∨ x = 3 ∨ x = 4) with e | e | e | e | e <;> subst e <;> rfl
section ERCR
variable {K : er_K}
theorem er_clr_s (m : er_M) (c : Nat) (k : Int) : er_clr m c c k = 0 := by
  show (if _ then _ else _) = _
  rw [if_pos rfl]
theorem er_clr_c {m : er_M} {c q : Nat} (k : Int) (h : q ≠ c) : er_clr m c q k = m q k := by
  show (if _ then _ else _) = _
  rw [if_neg h]

theorem sp_R_init {m : er_M} {Q : er_Post} (hz : ∀ k, m 1 k = 0) (hQ : ∀ m' f, er_CI m' er_b0 [] 0 f 0 → Q none (er_shR [some 2, some 6, some 40, some 43, some 52, some 61, some 82, none, none, none] 81) m') : er_Spec K mi_R_init [.inr 1] (er_shR [some 0, some 0, some 0, some 0, some 0, some 0, some 0, none, none, none] 0) m Q := by
  refine er_start (by decide) (Nat.le_of_ble_eq_true rfl) ?_
  show er_WP K mi_R_init 0 0 (er_shR [some 0, some 0, some 0, some 0, some 0, some 0, some 0, none, none, none] 0) m 0 [some (.inr 1), none] [] _
  refine er_aload_n rfl rfl d_R_init_0 ?_
  refine er_obj mo_R_3 (Nat.le_of_ble_eq_true rfl) ⟨Nat.le_of_ble_eq_true rfl, Nat.le_of_ble_eq_true rfl⟩ d_R_init_1 ?_

  refine er_aload_n rfl rfl d_R_init_4 ?_
  refine er_new (ci := 0) (N := 7) (rs0 := [none, none, none, none, some 0, some 0, some 0]) rfl er_iB er_tB_ok kn_R_9 er_rsB ⟨Nat.le_of_ble_eq_true rfl, Nat.le_of_ble_eq_true rfl⟩ d_R_init_5 ?_
  show er_WP K mi_R_init 1 7 (er_shR [some 0, some 0, some 0, some 0, some 0, some 0, some 0, none, none, none] 0 ++ [(0 + 5, 7, [none, none, none, none, some 0, some 0, some 0])]) (er_clr m 2) 8 [some (.inr 1), none] [.inr 2, .inr 1] _
  refine er_dup d_R_init_8 ?_
  refine er_callI (b := 2) (As := []) (st := [.inr 2, .inr 1]) ml_R_11 rfl rfl mw_B_init md_B_init rfl rfl (Nat.le_of_ble_eq_true rfl) ⟨Nat.le_of_ble_eq_true rfl, Nat.le_of_ble_eq_true rfl⟩ ⟨Nat.le_of_ble_eq_true rfl, Nat.le_of_ble_eq_true rfl⟩ d_R_init_9 (sp_B_init (c := 2) (sh0 := er_shR [some 0, some 0, some 0, some 0, some 0, some 0, some 0, none, none, none] 0) rfl (fun k => er_clr_s _ _ _) (Q := fun v s2 w2 => v = none ∧ s2 = er_shR [some 0, some 0, some 0, some 0, some 0, some 0, some 0, none, none, none] 4 ∧ er_kp (fun q _ => 2 ≤ q) (er_clr m 2) w2 ∧ w2 2 0 = 3 ∧ w2 2 1 = 3 ∧ w2 2 2 = 1 ∧ w2 2 3 = 2 ∧ (∀ j : Int, 0 ≤ j → j < 36 → w2 3 j = er_k3 3 0 j ∧ w2 4 j = -1 ∧ w2 5 j = 0)) (fun m' q1 q2 q3 q4 q5 q6 => ⟨rfl, rfl, q1, q2, q3, q4, q5, q6⟩)) (fun v s2 m1 hq => ?_)
  obtain ⟨rfl, rfl, kB, fB⟩ := hq
  refine er_putFR (k := 0) (r := 2) (ci := 5) (n := 10) (rs := [some 0, some 0, some 0, some 0, some 0, some 0, some 0, none, none, none]) fl_R_12 rfl rfl rfl (Nat.le_of_ble_eq_true rfl) (Nat.le_of_ble_eq_true rfl) (by decide) (fun a => ⟨rfl, rfl⟩) d_R_init_12 ?_
  show er_WP K mi_R_init 4 115 (er_shR [some 2, some 0, some 0, some 0, some 0, some 0, some 0, none, none, none] 4) m1 15 [some (.inr 1), none] [] _
  refine er_aload_n rfl rfl d_R_init_15 ?_
  refine er_new (ci := 3) (N := 2) (rs0 := [some 0, none]) rfl er_iH er_tH_ok kn_R_16 er_rsH ⟨Nat.le_of_ble_eq_true rfl, Nat.le_of_ble_eq_true rfl⟩ d_R_init_16 ?_
  show er_WP K mi_R_init 5 117 (er_shR [some 2, some 0, some 0, some 0, some 0, some 0, some 0, none, none, none] 4 ++ [(3 + 5, 2, [some 0, none])]) (er_clr m1 6) 19 [some (.inr 1), none] [.inr 6, .inr 1] _
  refine er_dup d_R_init_19 ?_
  refine er_callI (b := 6) (As := []) (st := [.inr 6, .inr 1]) ml_R_18 rfl rfl mw_H_init md_H_init rfl rfl (Nat.le_of_ble_eq_true rfl) ⟨Nat.le_of_ble_eq_true rfl, Nat.le_of_ble_eq_true rfl⟩ ⟨Nat.le_of_ble_eq_true rfl, Nat.le_of_ble_eq_true rfl⟩ d_R_init_20 (sp_H_init (c := 6) (sh0 := er_shR [some 2, some 0, some 0, some 0, some 0, some 0, some 0, none, none, none] 4) rfl (fun k => er_clr_s _ _ _) (Q := fun v s2 w2 => v = none ∧ s2 = er_shR [some 2, some 0, some 0, some 0, some 0, some 0, some 0, none, none, none] 38 ∧ er_kp (fun q _ => 6 ≤ q) (er_clr m1 6) w2 ∧ w2 6 1 = 0 ∧ (∀ j : Nat, j < 8 → w2 7 (j : Int) = ((8 + 4 * j : Nat) : Int))) (fun m' q1 q2 q3 => ⟨rfl, rfl, q1, q2, q3⟩)) (fun v s2 m2 hq => ?_)
  obtain ⟨rfl, rfl, kH, fH⟩ := hq
  refine er_putFR (k := 1) (r := 6) (ci := 5) (n := 10) (rs := [some 2, some 0, some 0, some 0, some 0, some 0, some 0, none, none, none]) fl_R_19 rfl rfl rfl (Nat.le_of_ble_eq_true rfl) (Nat.le_of_ble_eq_true rfl) (by decide) (fun a => ⟨rfl, rfl⟩) d_R_init_23 ?_
  show er_WP K mi_R_init 38 1045 (er_shR [some 2, some 6, some 0, some 0, some 0, some 0, some 0, none, none, none] 38) m2 26 [some (.inr 1), none] [] _
  refine er_aload_n rfl rfl d_R_init_26 ?_
  refine er_new (ci := 2) (N := 5) (rs0 := [some 0, none, none, none, some 0]) rfl er_iG er_tG_ok kn_R_23 er_rsG ⟨Nat.le_of_ble_eq_true rfl, Nat.le_of_ble_eq_true rfl⟩ d_R_init_27 ?_
  show er_WP K mi_R_init 39 1050 (er_shR [some 2, some 6, some 0, some 0, some 0, some 0, some 0, none, none, none] 38 ++ [(2 + 5, 5, [some 0, none, none, none, some 0])]) (er_clr m2 40) 30 [some (.inr 1), none] [.inr 40, .inr 1] _
  refine er_dup d_R_init_30 ?_
  refine er_callI (b := 40) (As := []) (st := [.inr 40, .inr 1]) ml_R_25 rfl rfl mw_G_init md_G_init rfl rfl (Nat.le_of_ble_eq_true rfl) ⟨Nat.le_of_ble_eq_true rfl, Nat.le_of_ble_eq_true rfl⟩ ⟨Nat.le_of_ble_eq_true rfl, Nat.le_of_ble_eq_true rfl⟩ d_R_init_31 (sp_G_init (c := 40) (sh0 := er_shR [some 2, some 6, some 0, some 0, some 0, some 0, some 0, none, none, none] 38) rfl (fun k => er_clr_s _ _ _) (Q := fun v s2 w2 => v = none ∧ s2 = er_shR [some 2, some 6, some 0, some 0, some 0, some 0, some 0, none, none, none] 41 ∧ er_zs (er_clr m2 40) 40 (er_u (er_u (er_u (fun _ => 0) 1 0) 2 0) 3 0) 42 w2) (fun m' q1 => ⟨rfl, rfl, q1⟩)) (fun v s2 m3 hq => ?_)
  obtain ⟨rfl, rfl, zG⟩ := hq
  refine er_putFR (k := 2) (r := 40) (ci := 5) (n := 10) (rs := [some 2, some 6, some 0, some 0, some 0, some 0, some 0, none, none, none]) fl_R_26 rfl rfl rfl (Nat.le_of_ble_eq_true rfl) (Nat.le_of_ble_eq_true rfl) (by decide) (fun a => ⟨rfl, rfl⟩) d_R_init_34 ?_
  show er_WP K mi_R_init 41 1146 (er_shR [some 2, some 6, some 40, some 0, some 0, some 0, some 0, none, none, none] 41) m3 37 [some (.inr 1), none] [] _
  refine er_aload_n rfl rfl d_R_init_37 ?_
  refine er_new (ci := 1) (N := 11) (rs0 := [some 0, some 0, some 0, some 0, some 0, some 0, some 0, some 0, none, none, none]) rfl er_iN er_tN_ok kn_R_30 er_rsN ⟨Nat.le_of_ble_eq_true rfl, Nat.le_of_ble_eq_true rfl⟩ d_R_init_38 ?_
  show er_WP K mi_R_init 42 1157 (er_shR [some 2, some 6, some 40, some 0, some 0, some 0, some 0, none, none, none] 41 ++ [(1 + 5, 11, [some 0, some 0, some 0, some 0, some 0, some 0, some 0, some 0, none, none, none])]) (er_clr m3 43) 41 [some (.inr 1), none] [.inr 43, .inr 1] _
  refine er_dup d_R_init_41 ?_
  refine er_callI (b := 43) (As := []) (st := [.inr 43, .inr 1]) ml_R_32 rfl rfl mw_N_init md_N_init rfl rfl (Nat.le_of_ble_eq_true rfl) ⟨Nat.le_of_ble_eq_true rfl, Nat.le_of_ble_eq_true rfl⟩ ⟨Nat.le_of_ble_eq_true rfl, Nat.le_of_ble_eq_true rfl⟩ d_R_init_42 (sp_N_init (c := 43) (sh0 := er_shR [some 2, some 6, some 40, some 0, some 0, some 0, some 0, none, none, none] 41) rfl (fun k => er_clr_s _ _ _) (Q := fun v s2 w2 => v = none ∧ s2 = er_shR [some 2, some 6, some 40, some 0, some 0, some 0, some 0, none, none, none] 50 ∧ er_zs (er_clr m3 43) 43 (er_u (er_u (er_u (fun _ => 0) 8 0) 9 0) 10 0) 51 w2) (fun m' q1 => ⟨rfl, rfl, q1⟩)) (fun v s2 m4 hq => ?_)
  obtain ⟨rfl, rfl, zN43⟩ := hq
  refine er_putFR (k := 3) (r := 43) (ci := 5) (n := 10) (rs := [some 2, some 6, some 40, some 0, some 0, some 0, some 0, none, none, none]) fl_R_33 rfl rfl rfl (Nat.le_of_ble_eq_true rfl) (Nat.le_of_ble_eq_true rfl) (by decide) (fun a => ⟨rfl, rfl⟩) d_R_init_45 ?_
  show er_WP K mi_R_init 50 4685 (er_shR [some 2, some 6, some 40, some 43, some 0, some 0, some 0, none, none, none] 50) m4 48 [some (.inr 1), none] [] _
  refine er_aload_n rfl rfl d_R_init_48 ?_
  refine er_new (ci := 1) (N := 11) (rs0 := [some 0, some 0, some 0, some 0, some 0, some 0, some 0, some 0, none, none, none]) rfl er_iN er_tN_ok kn_R_30 er_rsN ⟨Nat.le_of_ble_eq_true rfl, Nat.le_of_ble_eq_true rfl⟩ d_R_init_49 ?_
  show er_WP K mi_R_init 51 4696 (er_shR [some 2, some 6, some 40, some 43, some 0, some 0, some 0, none, none, none] 50 ++ [(1 + 5, 11, [some 0, some 0, some 0, some 0, some 0, some 0, some 0, some 0, none, none, none])]) (er_clr m4 52) 52 [some (.inr 1), none] [.inr 52, .inr 1] _
  refine er_dup d_R_init_52 ?_
  refine er_callI (b := 52) (As := []) (st := [.inr 52, .inr 1]) ml_R_32 rfl rfl mw_N_init md_N_init rfl rfl (Nat.le_of_ble_eq_true rfl) ⟨Nat.le_of_ble_eq_true rfl, Nat.le_of_ble_eq_true rfl⟩ ⟨Nat.le_of_ble_eq_true rfl, Nat.le_of_ble_eq_true rfl⟩ d_R_init_53 (sp_N_init (c := 52) (sh0 := er_shR [some 2, some 6, some 40, some 43, some 0, some 0, some 0, none, none, none] 50) rfl (fun k => er_clr_s _ _ _) (Q := fun v s2 w2 => v = none ∧ s2 = er_shR [some 2, some 6, some 40, some 43, some 0, some 0, some 0, none, none, none] 59 ∧ er_zs (er_clr m4 52) 52 (er_u (er_u (er_u (fun _ => 0) 8 0) 9 0) 10 0) 60 w2) (fun m' q1 => ⟨rfl, rfl, q1⟩)) (fun v s2 m5 hq => ?_)
  obtain ⟨rfl, rfl, zN52⟩ := hq
  refine er_putFR (k := 4) (r := 52) (ci := 5) (n := 10) (rs := [some 2, some 6, some 40, some 43, some 0, some 0, some 0, none, none, none]) fl_R_37 rfl rfl rfl (Nat.le_of_ble_eq_true rfl) (Nat.le_of_ble_eq_true rfl) (by decide) (fun a => ⟨rfl, rfl⟩) d_R_init_56 ?_
  show er_WP K mi_R_init 59 8224 (er_shR [some 2, some 6, some 40, some 43, some 52, some 0, some 0, none, none, none] 59) m5 59 [some (.inr 1), none] [] _
  refine er_aload_n rfl rfl d_R_init_59 ?_
  refine er_iconst d_R_init_60 ?_
  refine er_newq (k := 4) (C0 := "EscapeRouter$Layering") (Or.inr ⟨rfl, rfl⟩) kl_R_40 (by decide) (by decide) ⟨Nat.le_of_ble_eq_true rfl, Nat.le_of_ble_eq_true rfl⟩ d_R_init_61 ?_
  refine er_putFR (k := 5) (r := 61) (ci := 5) (n := 10) (rs := [some 2, some 6, some 40, some 43, some 52, some 0, some 0, none, none, none]) fl_R_42 rfl rfl rfl (Nat.le_of_ble_eq_true rfl) (Nat.le_of_ble_eq_true rfl) (by decide) (fun a => ⟨rfl, rfl⟩) d_R_init_64 ?_
  show er_WP K mi_R_init (60 + 5 * 0) (8228 + 153 * 0) (er_shR [some 2, some 6, some 40, some 43, some 52, some 61, some 0, none, none, none] (60 + 5 * 0)) (er_clr m5 61) 67 [some (.inr 1), none] [] _
  refine er_iconst d_R_init_67 ?_
  refine er_istG (ls2 := [some (.inr 1), some (.inl 0)]) 1 rfl (Nat.le_of_ble_eq_true rfl) rfl d_R_init_68 ?_
  have loop : ∀ (d x : Nat) (w : er_M), x + d = 4 → er_kp (fun q _ => 61 ≤ q) m5 w → (∀ s : Nat, s < x → w 61 (s : Int) = ((62 + 5 * s : Nat) : Int) ∧ w (62 + 5 * s) 0 = (s : Int) ∧ w (62 + 5 * s) 8 = 0) → er_WP K mi_R_init (60 + 5 * x) (8228 + 153 * x) (er_shR [some 2, some 6, some 40, some 43, some 52, some 61, some 0, none, none, none] (60 + 5 * x)) w 69 [some (.inr 1), some (.inl (x : Int))] [] (er_Z K mi_R_init Q) := by
    intro d
    induction d with
    | zero =>
      intro x w hx hk hs
      have hx4 : x = 4 := by omega
      subst hx4
      refine er_iload_n rfl rfl d_R_init_69 ?_
      refine er_iconst d_R_init_70 ?_
      refine er_icmp_ge (tgt := 94) (by decide) (by decide) (by decide) d_R_init_71 (fun _ => ?_) (fun hlt => by omega)
      refine er_aload_n rfl rfl d_R_init_94 ?_
      refine er_bipush (by decide) d_R_init_95 ?_
      refine er_newa (k := 1) (n := 36) (Nat.le_of_ble_eq_true rfl) rfl ka_boolean (by decide) (by decide) ⟨Nat.le_of_ble_eq_true rfl, Nat.le_of_ble_eq_true rfl⟩ d_R_init_97 ?_
      refine er_putFR (k := 6) (r := 82) (ci := 5) (n := 10) (rs := [some 2, some 6, some 40, some 43, some 52, some 61, some 0, none, none, none]) fl_R_49 rfl rfl rfl (Nat.le_of_ble_eq_true rfl) (Nat.le_of_ble_eq_true rfl) (by decide) (fun a => ⟨rfl, rfl⟩) d_R_init_99 ?_
      show er_WP K mi_R_init 81 8876 (er_shR [some 2, some 6, some 40, some 43, some 52, some 61, some 82, none, none, none] 81) (er_clr w 82) 102 [some (.inr 1), some (.inl 4)] [] _
      refine er_aload_n rfl rfl d_R_init_102 ?_
      refine er_iconst d_R_init_103 ?_
      refine er_putZ (ci := 5) (k := 7) (n := 10) (rs := [some 2, some 6, some 40, some 43, some 52, some 61, some 82, none, none, none]) fl_R_53 rfl (Nat.le_of_ble_eq_true rfl) rfl (Or.inl rfl) d_R_init_104 ?_
      refine er_aload_n rfl rfl d_R_init_107 ?_
      refine er_iconst d_R_init_108 ?_
      refine er_putI (ci := 5) (k := 8) (n := 10) (rs := [some 2, some 6, some 40, some 43, some 52, some 61, some 82, none, none, none]) fl_R_57 rfl (Nat.le_of_ble_eq_true rfl) rfl d_R_init_109 ?_
      refine er_aload_n rfl rfl d_R_init_112 ?_
      refine er_bipush (by decide) d_R_init_113 ?_
      refine er_putI (ci := 5) (k := 9) (n := 10) (rs := [some 2, some 6, some 40, some 43, some 52, some 61, some 82, none, none, none]) fl_R_61 rfl (Nat.le_of_ble_eq_true rfl) rfl d_R_init_115 ?_
      refine er_vret rfl rfl (Nat.le_of_ble_eq_true rfl) d_R_init_118 ?_
      -- what has become of the cells
      have g : ∀ q k, 2 ≤ q → q ≤ 81 → er_st (er_st (er_st (er_clr w 82) 1 ((7 : Nat) : Int) 0) 1 ((8 : Nat) : Int) 0) 1 ((9 : Nat) : Int) (-9) q k = w q k := fun q k q0 q1 => by
        rw [er_st_c (by omega), er_st_c (by omega), er_st_c (by omega), er_clr_c k (by omega)]
      have e17 : er_st (er_st (er_st (er_clr w 82) 1 ((7 : Nat) : Int) 0) 1 ((8 : Nat) : Int) 0) 1 ((9 : Nat) : Int) (-9) 1 7 = 0 := by
        rw [er_st_k (by decide), er_st_k (by decide)]
        exact er_st_s _ _ _ _
      have e19 : er_st (er_st (er_st (er_clr w 82) 1 ((7 : Nat) : Int) 0) 1 ((8 : Nat) : Int) 0) 1 ((9 : Nat) : Int) (-9) 1 9 = -9 := er_st_s _ _ _ _
      generalize er_st (er_st (er_st (er_clr w 82) 1 ((7 : Nat) : Int) 0) 1 ((8 : Nat) : Int) 0) 1 ((9 : Nat) : Int) (-9) = u at g e17 e19 ⊢
      have l5 : ∀ q k, 2 ≤ q → q < 61 → u q k = m5 q k := fun q k q0 q1 => by rw [g q k q0 (by omega), hk q k (by omega)]
      have l4 : ∀ q k, 2 ≤ q → q < 52 → u q k = m4 q k := fun q k q0 q1 => by rw [l5 q k q0 (by omega), zN52.1 q k (by omega), er_clr_c k (by omega)]
      have l3 : ∀ q k, 2 ≤ q → q < 43 → u q k = m3 q k := fun q k q0 q1 => by rw [l4 q k q0 (by omega), zN43.1 q k (by omega), er_clr_c k (by omega)]
      have l2 : ∀ q k, 2 ≤ q → q < 40 → u q k = m2 q k := fun q k q0 q1 => by rw [l3 q k q0 (by omega), zG.1 q k (by omega), er_clr_c k (by omega)]
      have l1 : ∀ q k, 2 ≤ q → q < 6 → u q k = m1 q k := fun q k q0 q1 => by rw [l2 q k q0 (by omega), kH q k (by omega), er_clr_c k (by omega)]
      have hb : er_CB 2 u er_b0 := ⟨by rw [l1 2 0 (by decide) (by decide)]; exact fB.1, by rw [l1 2 1 (by decide) (by decide)]; exact fB.2.1, by rw [l1 2 2 (by decide) (by decide)]; exact fB.2.2.1, by rw [l1 2 3 (by decide) (by decide)]; exact fB.2.2.2.1, fun j j0 j1 => by
        rw [l1 _ _ (by decide) (by decide), l1 _ _ (by decide) (by decide), l1 _ _ (by decide) (by decide)]
        exact fB.2.2.2.2 j j0 j1⟩
      have hh : er_HI u [] := ⟨by rw [l2 6 1 (by decide) (by decide)]; exact fH.1, by decide, fun j => 8 + 4 * j, fun j hj => ⟨by rw [l2 7 _ (by decide) (by decide)]; exact fH.2 j hj, by unfold er_isB; dsimp only; omega, by dsimp only; omega⟩, fun i j hi hj hij => by dsimp only at hij; omega, fun j hj => by simp at hj⟩
      have ht : er_TX u 0 (fun _ => 0) := ⟨by decide, by rw [l3 40 1 (by decide) (by decide), zG.2.1]; rfl, fun j j0 j1 => by omega⟩
      have mk : ∀ n : Nat, ∀ mm mb : er_M, (n = 43 ∨ n = 52) → er_zs mb n (er_u (er_u (er_u (fun _ => 0) 8 0) 9 0) 10 0) (n + 8) mm → (∀ q k, n ≤ q → q ≤ n + 8 → u q k = mm q k) → er_MK n u ∧ u n 10 = 0 := by
        intro n mm mb hn hz2 hu
        have e0 : u n 10 = 0 := by rw [hu n 10 (by omega) (by omega), hz2.2.1]; rfl
        refine ⟨⟨by rw [e0]; exact Int.le_refl _, fun v v0 v1 => ?_⟩, e0⟩
        rw [e0, hu (n + 6) v (by omega) (by omega), hz2.2.2 (n + 6) v (by omega) (by omega)]
        exact ⟨Int.le_refl _, Int.le_refl _⟩
      have mk43 := mk 43 m4 _ (Or.inl rfl) zN43 (fun q k q0 q1 => l4 q k (by omega) (by omega))
      have mk52 := mk 52 m5 _ (Or.inr rfl) zN52 (fun q k q0 q1 => l5 q k (by omega) (by omega))
      refine hQ u (fun _ => 0) (er_CI_new hb er_BV_0 hh ht ⟨e17, e19, fun s hs4 => ?_, mk43.1, by rw [mk43.2]; exact Int.le_refl _, mk52.1, by rw [mk52.2]; exact Int.le_refl _⟩)
      rw [g 61 _ (by omega) (by omega), g (62 + 5 * s) _ (by omega) (by omega), g (62 + 5 * s) _ (by omega) (by omega)]
      exact hs s hs4
    | succ d ih =>
      intro x w hx hk hs
      have h4 : x < 4 := by omega
      refine er_iload_n rfl rfl d_R_init_69 ?_
      refine er_iconst d_R_init_70 ?_
      refine er_icmp_ge (tgt := 94) (by decide) ⟨by omega, by omega⟩ (by decide) d_R_init_71 (fun hge => by omega) (fun _ => ?_)
      refine er_aload_n rfl rfl d_R_init_74 ?_
      refine er_getR (k := 5) (n := 10) (r := 61) fl_R_42 (er_shR_4 x (by omega)) (Nat.le_of_ble_eq_true rfl) rfl (by decide) d_R_init_75 ?_
      refine er_iload_n rfl rfl d_R_init_78 ?_
      refine er_new (ci := 4) (N := 9) (rs0 := [none, some 0, none, some 0, some 0, some 0, none, none, none]) rfl er_iY er_tY_ok kn_R_40 er_rsY ⟨by show 60 + 5 * x + 1 ≤ 81; omega, by show 8228 + 153 * x + 9 ≤ 8876; omega⟩ d_R_init_79 ?_
      rw [er_shR_1 x h4]
      refine er_dup d_R_init_82 ?_
      refine er_iload_n rfl rfl d_R_init_83 ?_
      refine er_callI (b := 62 + 5 * x) (As := [.inl (x : Int)]) (st := [.inr (62 + 5 * x), .inl (x : Int), .inr 61]) ml_R_46 rfl rfl mw_Y_init md_Y_init rfl rfl (Nat.le_of_ble_eq_true rfl) ⟨Nat.le_of_ble_eq_true rfl, Nat.le_of_ble_eq_true rfl⟩ ⟨by show 60 + 5 * x + 1 + 4 ≤ 81; omega, by show 8228 + 153 * x + 9 + 144 ≤ 8876; omega⟩ d_R_init_84 (sp_Y_init (c := 62 + 5 * x) (s := (x : Int)) (sh0 := er_shR [some 2, some 6, some 40, some 43, some 52, some 61, some 0, none, none, none] (60 + 5 * x)) (er_shR_1 x h4).symm (fun k => er_clr_s _ _ _) (Q := fun v s2 w2 => v = none ∧ s2 = er_shR [some 2, some 6, some 40, some 43, some 52, some 61, some 0, none, none, none] (60 + 5 * (x + 1)) ∧ er_zs (er_clr w (62 + 5 * x)) (62 + 5 * x) (er_u (er_u (er_u (er_u (er_u (fun _ => 0) 0 (x : Int)) 2 0) 6 0) 7 0) 8 0) (62 + 5 * x + 4) w2) (fun m' q1 => ⟨rfl, er_shR_2 x h4, q1⟩)) (fun v s2 w2 hq => ?_)
      obtain ⟨rfl, rfl, zY⟩ := hq
      have low : ∀ q k, q < 62 + 5 * x → w2 q k = w q k := fun q k hq => by rw [zY.1 q k (by omega), er_clr_c k (by omega)]
      refine er_aast (k := 4) (ci := 4) (n := 4) (N := 9) (er_shR_3 x h4).1 (Or.inr ⟨rfl, rfl⟩) (by decide) (by omega) (by omega) (er_shR_3 x h4).2 d_R_init_87 ?_
      refine er_incG (ls2 := [some (.inr 1), some (.inl ((x + 1 : Nat) : Int))]) rfl (Nat.le_of_ble_eq_true rfl) rfl d_R_init_88 ?_
      refine er_goto (tgt := 69) (by decide) d_R_init_91 ?_
      have e1 : 60 + 5 * x + 1 + mi_Y_init.2.2.2.2.cells = 60 + 5 * (x + 1) := by show 60 + 5 * x + 1 + 4 = _; omega
      have e2 : 8228 + 153 * x + 9 + mi_Y_init.2.2.2.2.slots = 8228 + 153 * (x + 1) := by show 8228 + 153 * x + 9 + 144 = _; omega
      rw [e1, e2]
      refine ih (x + 1) _ (by omega) (fun q k hq => by rw [er_st_c (by omega), low q k (by omega)]; exact hk q k hq) (fun s hsx => ?_)
      by_cases hss : s = x
      · rw [hss]
        refine ⟨er_st_s _ _ _ _, ?_, ?_⟩
        · rw [er_st_c (by omega), zY.2.1]; rfl
        · rw [er_st_c (by omega), zY.2.1]; rfl
      · rw [er_st_k (by omega), er_st_c (by omega), er_st_c (by omega), low _ _ (by omega), low _ _ (by omega), low _ _ (by omega)]
        exact hs s (by omega)
  refine loop 4 0 _ rfl (fun q k hq => er_clr_c k (by omega)) (fun s hs => by omega)
end ERCR
