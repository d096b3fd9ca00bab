/-! constructors: the reference -/
section ERCM
variable {K : er_K} {c : Nat} {sh0 : er_Sh}
theorem sp_M_init {m : er_M} {Q : er_Post} (hc : c = sh0.length + 1) (hz : ∀ k, m c k = 0) (hQ : ∀ m', er_kp (fun q _ => c ≤ q) m m' → (∀ k, m' c k = 0) → m' (c + 1) 0 = 3 → m' (c + 1) 1 = 3 → m' (c + 1) 2 = 1 → m' (c + 1) 3 = 2 → (∀ j : Int, 0 ≤ j → j < 36 → m' (c + 1) (4 + j) = er_k3 3 0 j) → (∀ j : Int, 40 ≤ j → m' (c + 1) j = 0) → Q none (sh0 ++ [(6 + 5, 22, [some (c + 1), some (c + 2), none, some (c + 3), none, some (c + 4), none, none, some (c + 5), some (c + 6), some (c + 7), some (c + 8), some (c + 9), none, some (c + 10), some (c + 11), some (c + 12), some (c + 13), some (c + 14), some (c + 15), none, some (c + 16)]), (0, 112, []), (0, 896, []), (2, 60, []), (0, 36, []), (0, 760, []), (0, 760, []), (0, 760, []), (0, 136, []), (0, 760, []), (1, 36, []), (0, 136, []), (0, 136, []), (1, 136, []), (0, 36, []), (0, 36, []), (0, 760, [])]) m') : er_Spec K mi_M_init [.inr c] (sh0 ++ [(6 + 5, 22, [some 0, some 0, none, some 0, none, some 0, none, none, some 0, some 0, some 0, some 0, some 0, none, some 0, some 0, some 0, some 0, some 0, some 0, none, some 0])]) m Q := by
  have a1 : er_at (sh0 ++ [(6 + 5, 22, [some (c + 1), some (c + 2), none, some (c + 3), none, some (c + 4), none, none, some (c + 5), some (c + 6), some (c + 7), some (c + 8), some (c + 9), none, some (c + 10), some (c + 11), some (c + 12), some (c + 13), some (c + 14), some (c + 15), none, some (c + 16)]), (0, 112, []), (0, 896, []), (2, 60, []), (0, 36, []), (0, 760, []), (0, 760, []), (0, 760, []), (0, 136, []), (0, 760, []), (1, 36, []), (0, 136, []), (0, 136, []), (1, 136, []), (0, 36, []), (0, 36, []), (0, 760, [])]) (c + 0) = some (6 + 5, 22, [some (c + 1), some (c + 2), none, some (c + 3), none, some (c + 4), none, none, some (c + 5), some (c + 6), some (c + 7), some (c + 8), some (c + 9), none, some (c + 10), some (c + 11), some (c + 12), some (c + 13), some (c + 14), some (c + 15), none, some (c + 16)]) := by rw [er_at_top (k := 0) (by omega)]; rfl
  have a2 : er_at (sh0 ++ [(6 + 5, 22, [some (c + 1), some (c + 2), none, some (c + 3), none, some (c + 4), none, none, some (c + 5), some (c + 6), some (c + 7), some (c + 8), some (c + 9), none, some (c + 10), some (c + 11), some (c + 12), some (c + 13), some (c + 14), some (c + 15), none, some (c + 16)]), (0, 112, []), (0, 896, []), (2, 60, []), (0, 36, []), (0, 760, []), (0, 760, []), (0, 760, []), (0, 136, []), (0, 760, []), (1, 36, []), (0, 136, []), (0, 136, []), (1, 136, []), (0, 36, []), (0, 36, []), (0, 760, [])]) (c + 1) = some (0, 112, []) := by rw [er_at_top (k := 1) (by omega)]; rfl
  generalize hsh : sh0 ++ [(6 + 5, 22, [some (c + 1), some (c + 2), none, some (c + 3), none, some (c + 4), none, none, some (c + 5), some (c + 6), some (c + 7), some (c + 8), some (c + 9), none, some (c + 10), some (c + 11), some (c + 12), some (c + 13), some (c + 14), some (c + 15), none, some (c + 16)]), (0, 112, []), (0, 896, []), (2, 60, []), (0, 36, []), (0, 760, []), (0, 760, []), (0, 760, []), (0, 136, []), (0, 760, []), (1, 36, []), (0, 136, []), (0, 136, []), (1, 136, []), (0, 36, []), (0, 36, []), (0, 760, [])] = shM at a1 a2 hQ
  have loop : ∀ (d x : Nat) (m1 : er_M), x + d = 36 → er_kp (fun q _ => c ≤ q) m m1 → (∀ k, m1 c k = 0) → m1 (c + 1) 0 = 3 → m1 (c + 1) 1 = 3 → m1 (c + 1) 2 = 1 → m1 (c + 1) 3 = 2 → (∀ j : Int, 0 ≤ j → j < x → m1 (c + 1) (4 + j) = er_k3 3 0 j) → (∀ j : Int, 40 ≤ j → m1 (c + 1) j = 0) → er_WP K mi_M_init 16 5556 shM m1 172 [some (.inr c), some (.inl (x : Int))] [] (er_Z K mi_M_init Q) := by
    intro d
    induction d with
    | zero =>
      intro x m1 hx hk h0 b0 b1 b2 b3 hj h40
      refine er_iload_n rfl rfl d_M_init_172 ?_
      refine er_bipush (by decide) d_M_init_173 ?_
      refine er_icmp_ge (tgt := 213) (by decide) ⟨by omega, by omega⟩ (by decide) d_M_init_175 (fun _ => ?_) (fun hlt => by omega)
      exact er_vret rfl rfl (Nat.le_of_ble_eq_true rfl) d_M_init_213 (hQ m1 hk h0 b0 b1 b2 b3 (fun j j0 j1 => hj j j0 (by omega)) h40)
    | succ d ih =>
      intro x m1 hx hk h0 b0 b1 b2 b3 hj h40
      have put : ∀ v : Int, v = er_k3 3 0 x → er_WP K mi_M_init 16 5556 shM m1 206 [some (.inr c), some (.inl (x : Int))] [.inl v, .inl (4 + (x : Int)), .inr (c + 1)] (er_Z K mi_M_init Q) := by
        intro v ev
        refine er_iast a2 (by decide) (by omega) (by omega) d_M_init_206 ?_
        refine er_incG (ls2 := [some (.inr c), some (.inl ((x + 1 : Nat) : Int))]) rfl (Nat.le_of_ble_eq_true rfl) rfl d_M_init_207 ?_
        refine er_goto (tgt := 172) (by decide) d_M_init_210 ?_
        refine ih (x + 1) _ (by omega) (hk.tr (er_kp.st (by omega))) (fun k => by rw [er_st_c (by omega)]; exact h0 k) (by rw [er_st_k (by omega)]; exact b0) (by rw [er_st_k (by omega)]; exact b1) (by rw [er_st_k (by omega)]; exact b2) (by rw [er_st_k (by omega)]; exact b3) (fun j j0 j1 => ?_) (fun j j0 => by rw [er_st_k (by omega)]; exact h40 j j0)
        by_cases hjj : j = x
        · rw [hjj, er_st_s, ev]
        · rw [er_st_k (by omega)]; exact hj j j0 (by omega)
      refine er_iload_n rfl rfl d_M_init_172 ?_
      refine er_bipush (by decide) d_M_init_173 ?_
      refine er_icmp_ge (tgt := 213) (by decide) ⟨by omega, by omega⟩ (by decide) d_M_init_175 (fun hge => by omega) (fun _ => ?_)
      refine er_aload_n rfl rfl d_M_init_178 ?_
      refine er_getR fl_M_7 a1 (Nat.le_of_ble_eq_true rfl) rfl (by omega) d_M_init_179 ?_
      refine er_iconst d_M_init_182 ?_
      refine er_iload_n rfl rfl d_M_init_183 ?_
      refine er_iadd d_M_init_184 ?_
      refine er_iload_n rfl rfl d_M_init_185 ?_
      refine er_bipush (by decide) d_M_init_186 ?_
      refine er_idiv (by omega) (by omega) (by decide) (by decide) d_M_init_188 ?_
      refine er_iconst d_M_init_189 ?_
      refine er_icmp_ge (tgt := 205) (by decide) ⟨by omega, by omega⟩ (by decide) d_M_init_190 (fun hge => ?_) (fun h1 => ?_)
      · refine er_iconst d_M_init_205 ?_
        exact put 0 (er_k3_f (by omega)).symm
      · refine er_iload_n rfl rfl d_M_init_193 ?_
        refine er_bipush (by decide) d_M_init_194 ?_
        refine er_irem (by omega) (by omega) (by decide) (by decide) d_M_init_196 ?_
        refine er_iconst d_M_init_197 ?_
        refine er_icmp_ge (tgt := 205) (by decide) ⟨by omega, by omega⟩ (by decide) d_M_init_198 (fun hge => ?_) (fun h2 => ?_)
        · refine er_iconst d_M_init_205 ?_
          exact put 0 (er_k3_f (by omega)).symm
        · refine er_iconst d_M_init_201 ?_
          refine er_goto (tgt := 206) (by decide) d_M_init_202 ?_
          exact put 1 (er_k3_t (by omega)).symm
  have z0 := er_fresh hz
  refine er_start (by decide) (Nat.le_of_ble_eq_true rfl) ?_
  show er_WP K mi_M_init 0 0 (sh0 ++ [(6 + 5, 22, [some 0, some 0, none, some 0, none, some 0, none, none, some 0, some 0, some 0, some 0, some 0, none, some 0, some 0, some 0, some 0, some 0, some 0, none, some 0])]) m 0 [some (.inr c), none] [] _

  refine er_aload_n rfl rfl d_M_init_0 ?_
  refine er_obj mo_M_1 (Nat.le_of_ble_eq_true rfl) ⟨Nat.le_of_ble_eq_true rfl, Nat.le_of_ble_eq_true rfl⟩ d_M_init_1 ?_
  refine er_aload_n rfl rfl d_M_init_4 ?_
  refine er_bipush (by decide) d_M_init_5 ?_
  refine er_newaT (k := 0) (n := 112) (r := c + 1) (es' := [(6 + 5, 22, [some 0, some 0, none, some 0, none, some 0, none, none, some 0, some 0, some 0, some 0, some 0, none, some 0, some 0, some 0, some 0, some 0, some 0, none, some 0]), (0, 112, [])]) (Nat.le_of_ble_eq_true rfl) rfl ka_int (by decide) (by decide) ⟨Nat.le_of_ble_eq_true rfl, Nat.le_of_ble_eq_true rfl⟩ z0 rfl ⟨by rw [hc]; rfl, by omega⟩ rfl d_M_init_7 (fun m1 z1 => ?_)
  refine er_putFRT (rs' := [some (c + 1), some 0, none, some 0, none, some 0, none, none, some 0, some 0, some 0, some 0, some 0, none, some 0, some 0, some 0, some 0, some 0, some 0, none, some 0]) fl_M_7 rfl rfl hc (Nat.le_of_ble_eq_true rfl) (Nat.le_of_ble_eq_true rfl) (by omega) (fun a => ⟨rfl, rfl⟩) rfl d_M_init_9 ?_
  refine er_aload_n rfl rfl d_M_init_12 ?_
  refine er_sipush (by decide) d_M_init_13 ?_
  refine er_newaT (k := 0) (n := 896) (r := c + 2) (es' := [(6 + 5, 22, [some (c + 1), some 0, none, some 0, none, some 0, none, none, some 0, some 0, some 0, some 0, some 0, none, some 0, some 0, some 0, some 0, some 0, some 0, none, some 0]), (0, 112, []), (0, 896, [])]) (Nat.le_of_ble_eq_true rfl) rfl ka_int (by decide) (by decide) ⟨Nat.le_of_ble_eq_true rfl, Nat.le_of_ble_eq_true rfl⟩ z1 rfl ⟨by rw [hc]; rfl, by omega⟩ rfl d_M_init_16 (fun m2 z2 => ?_)
  refine er_putFRT (rs' := [some (c + 1), some (c + 2), none, some 0, none, some 0, none, none, some 0, some 0, some 0, some 0, some 0, none, some 0, some 0, some 0, some 0, some 0, some 0, none, some 0]) fl_M_13 rfl rfl hc (Nat.le_of_ble_eq_true rfl) (Nat.le_of_ble_eq_true rfl) (by omega) (fun a => ⟨rfl, rfl⟩) rfl d_M_init_18 ?_
  refine er_aload_n rfl rfl d_M_init_21 ?_
  refine er_bipush (by decide) d_M_init_22 ?_
  refine er_newaT (k := 2) (n := 60) (r := c + 3) (es' := [(6 + 5, 22, [some (c + 1), some (c + 2), none, some 0, none, some 0, none, none, some 0, some 0, some 0, some 0, some 0, none, some 0, some 0, some 0, some 0, some 0, some 0, none, some 0]), (0, 112, []), (0, 896, []), (2, 60, [])]) (Nat.le_of_ble_eq_true rfl) rfl ka_byte (by decide) (by decide) ⟨Nat.le_of_ble_eq_true rfl, Nat.le_of_ble_eq_true rfl⟩ z2 rfl ⟨by rw [hc]; rfl, by omega⟩ rfl d_M_init_24 (fun m3 z3 => ?_)
  refine er_putFRT (rs' := [some (c + 1), some (c + 2), none, some (c + 3), none, some 0, none, none, some 0, some 0, some 0, some 0, some 0, none, some 0, some 0, some 0, some 0, some 0, some 0, none, some 0]) fl_M_16 rfl rfl hc (Nat.le_of_ble_eq_true rfl) (Nat.le_of_ble_eq_true rfl) (by omega) (fun a => ⟨rfl, rfl⟩) rfl d_M_init_26 ?_
  refine er_aload_n rfl rfl d_M_init_29 ?_
  refine er_bipush (by decide) d_M_init_30 ?_
  refine er_newaT (k := 0) (n := 36) (r := c + 4) (es' := [(6 + 5, 22, [some (c + 1), some (c + 2), none, some (c + 3), none, some 0, none, none, some 0, some 0, some 0, some 0, some 0, none, some 0, some 0, some 0, some 0, some 0, some 0, none, some 0]), (0, 112, []), (0, 896, []), (2, 60, []), (0, 36, [])]) (Nat.le_of_ble_eq_true rfl) rfl ka_int (by decide) (by decide) ⟨Nat.le_of_ble_eq_true rfl, Nat.le_of_ble_eq_true rfl⟩ z3 rfl ⟨by rw [hc]; rfl, by omega⟩ rfl d_M_init_32 (fun m4 z4 => ?_)
  refine er_putFRT (rs' := [some (c + 1), some (c + 2), none, some (c + 3), none, some (c + 4), none, none, some 0, some 0, some 0, some 0, some 0, none, some 0, some 0, some 0, some 0, some 0, some 0, none, some 0]) fl_M_20 rfl rfl hc (Nat.le_of_ble_eq_true rfl) (Nat.le_of_ble_eq_true rfl) (by omega) (fun a => ⟨rfl, rfl⟩) rfl d_M_init_34 ?_
  refine er_aload_n rfl rfl d_M_init_37 ?_
  refine er_sipush (by decide) d_M_init_38 ?_
  refine er_newaT (k := 0) (n := 760) (r := c + 5) (es' := [(6 + 5, 22, [some (c + 1), some (c + 2), none, some (c + 3), none, some (c + 4), none, none, some 0, some 0, some 0, some 0, some 0, none, some 0, some 0, some 0, some 0, some 0, some 0, none, some 0]), (0, 112, []), (0, 896, []), (2, 60, []), (0, 36, []), (0, 760, [])]) (Nat.le_of_ble_eq_true rfl) rfl ka_int (by decide) (by decide) ⟨Nat.le_of_ble_eq_true rfl, Nat.le_of_ble_eq_true rfl⟩ z4 rfl ⟨by rw [hc]; rfl, by omega⟩ rfl d_M_init_41 (fun m5 z5 => ?_)
  refine er_putFRT (rs' := [some (c + 1), some (c + 2), none, some (c + 3), none, some (c + 4), none, none, some (c + 5), some 0, some 0, some 0, some 0, none, some 0, some 0, some 0, some 0, some 0, some 0, none, some 0]) fl_M_23 rfl rfl hc (Nat.le_of_ble_eq_true rfl) (Nat.le_of_ble_eq_true rfl) (by omega) (fun a => ⟨rfl, rfl⟩) rfl d_M_init_43 ?_
  refine er_aload_n rfl rfl d_M_init_46 ?_
  refine er_sipush (by decide) d_M_init_47 ?_
  refine er_newaT (k := 0) (n := 760) (r := c + 6) (es' := [(6 + 5, 22, [some (c + 1), some (c + 2), none, some (c + 3), none, some (c + 4), none, none, some (c + 5), some 0, some 0, some 0, some 0, none, some 0, some 0, some 0, some 0, some 0, some 0, none, some 0]), (0, 112, []), (0, 896, []), (2, 60, []), (0, 36, []), (0, 760, []), (0, 760, [])]) (Nat.le_of_ble_eq_true rfl) rfl ka_int (by decide) (by decide) ⟨Nat.le_of_ble_eq_true rfl, Nat.le_of_ble_eq_true rfl⟩ z5 rfl ⟨by rw [hc]; rfl, by omega⟩ rfl d_M_init_50 (fun m6 z6 => ?_)
  refine er_putFRT (rs' := [some (c + 1), some (c + 2), none, some (c + 3), none, some (c + 4), none, none, some (c + 5), some (c + 6), some 0, some 0, some 0, none, some 0, some 0, some 0, some 0, some 0, some 0, none, some 0]) fl_M_26 rfl rfl hc (Nat.le_of_ble_eq_true rfl) (Nat.le_of_ble_eq_true rfl) (by omega) (fun a => ⟨rfl, rfl⟩) rfl d_M_init_52 ?_
  refine er_aload_n rfl rfl d_M_init_55 ?_
  refine er_sipush (by decide) d_M_init_56 ?_
  refine er_newaT (k := 0) (n := 760) (r := c + 7) (es' := [(6 + 5, 22, [some (c + 1), some (c + 2), none, some (c + 3), none, some (c + 4), none, none, some (c + 5), some (c + 6), some 0, some 0, some 0, none, some 0, some 0, some 0, some 0, some 0, some 0, none, some 0]), (0, 112, []), (0, 896, []), (2, 60, []), (0, 36, []), (0, 760, []), (0, 760, []), (0, 760, [])]) (Nat.le_of_ble_eq_true rfl) rfl ka_int (by decide) (by decide) ⟨Nat.le_of_ble_eq_true rfl, Nat.le_of_ble_eq_true rfl⟩ z6 rfl ⟨by rw [hc]; rfl, by omega⟩ rfl d_M_init_59 (fun m7 z7 => ?_)
  refine er_putFRT (rs' := [some (c + 1), some (c + 2), none, some (c + 3), none, some (c + 4), none, none, some (c + 5), some (c + 6), some (c + 7), some 0, some 0, none, some 0, some 0, some 0, some 0, some 0, some 0, none, some 0]) fl_M_29 rfl rfl hc (Nat.le_of_ble_eq_true rfl) (Nat.le_of_ble_eq_true rfl) (by omega) (fun a => ⟨rfl, rfl⟩) rfl d_M_init_61 ?_
  refine er_aload_n rfl rfl d_M_init_64 ?_
  refine er_sipush (by decide) d_M_init_65 ?_
  refine er_newaT (k := 0) (n := 136) (r := c + 8) (es' := [(6 + 5, 22, [some (c + 1), some (c + 2), none, some (c + 3), none, some (c + 4), none, none, some (c + 5), some (c + 6), some (c + 7), some 0, some 0, none, some 0, some 0, some 0, some 0, some 0, some 0, none, some 0]), (0, 112, []), (0, 896, []), (2, 60, []), (0, 36, []), (0, 760, []), (0, 760, []), (0, 760, []), (0, 136, [])]) (Nat.le_of_ble_eq_true rfl) rfl ka_int (by decide) (by decide) ⟨Nat.le_of_ble_eq_true rfl, Nat.le_of_ble_eq_true rfl⟩ z7 rfl ⟨by rw [hc]; rfl, by omega⟩ rfl d_M_init_68 (fun m8 z8 => ?_)
  refine er_putFRT (rs' := [some (c + 1), some (c + 2), none, some (c + 3), none, some (c + 4), none, none, some (c + 5), some (c + 6), some (c + 7), some (c + 8), some 0, none, some 0, some 0, some 0, some 0, some 0, some 0, none, some 0]) fl_M_32 rfl rfl hc (Nat.le_of_ble_eq_true rfl) (Nat.le_of_ble_eq_true rfl) (by omega) (fun a => ⟨rfl, rfl⟩) rfl d_M_init_70 ?_
  refine er_aload_n rfl rfl d_M_init_73 ?_
  refine er_sipush (by decide) d_M_init_74 ?_
  refine er_newaT (k := 0) (n := 760) (r := c + 9) (es' := [(6 + 5, 22, [some (c + 1), some (c + 2), none, some (c + 3), none, some (c + 4), none, none, some (c + 5), some (c + 6), some (c + 7), some (c + 8), some 0, none, some 0, some 0, some 0, some 0, some 0, some 0, none, some 0]), (0, 112, []), (0, 896, []), (2, 60, []), (0, 36, []), (0, 760, []), (0, 760, []), (0, 760, []), (0, 136, []), (0, 760, [])]) (Nat.le_of_ble_eq_true rfl) rfl ka_int (by decide) (by decide) ⟨Nat.le_of_ble_eq_true rfl, Nat.le_of_ble_eq_true rfl⟩ z8 rfl ⟨by rw [hc]; rfl, by omega⟩ rfl d_M_init_77 (fun m9 z9 => ?_)
  refine er_putFRT (rs' := [some (c + 1), some (c + 2), none, some (c + 3), none, some (c + 4), none, none, some (c + 5), some (c + 6), some (c + 7), some (c + 8), some (c + 9), none, some 0, some 0, some 0, some 0, some 0, some 0, none, some 0]) fl_M_35 rfl rfl hc (Nat.le_of_ble_eq_true rfl) (Nat.le_of_ble_eq_true rfl) (by omega) (fun a => ⟨rfl, rfl⟩) rfl d_M_init_79 ?_
  refine er_aload_n rfl rfl d_M_init_82 ?_
  refine er_bipush (by decide) d_M_init_83 ?_
  refine er_newaT (k := 1) (n := 36) (r := c + 10) (es' := [(6 + 5, 22, [some (c + 1), some (c + 2), none, some (c + 3), none, some (c + 4), none, none, some (c + 5), some (c + 6), some (c + 7), some (c + 8), some (c + 9), none, some 0, some 0, some 0, some 0, some 0, some 0, none, some 0]), (0, 112, []), (0, 896, []), (2, 60, []), (0, 36, []), (0, 760, []), (0, 760, []), (0, 760, []), (0, 136, []), (0, 760, []), (1, 36, [])]) (Nat.le_of_ble_eq_true rfl) rfl ka_boolean (by decide) (by decide) ⟨Nat.le_of_ble_eq_true rfl, Nat.le_of_ble_eq_true rfl⟩ z9 rfl ⟨by rw [hc]; rfl, by omega⟩ rfl d_M_init_85 (fun m10 z10 => ?_)
  refine er_putFRT (rs' := [some (c + 1), some (c + 2), none, some (c + 3), none, some (c + 4), none, none, some (c + 5), some (c + 6), some (c + 7), some (c + 8), some (c + 9), none, some (c + 10), some 0, some 0, some 0, some 0, some 0, none, some 0]) fl_M_38 rfl rfl hc (Nat.le_of_ble_eq_true rfl) (Nat.le_of_ble_eq_true rfl) (by omega) (fun a => ⟨rfl, rfl⟩) rfl d_M_init_87 ?_
  refine er_aload_n rfl rfl d_M_init_90 ?_
  refine er_sipush (by decide) d_M_init_91 ?_
  refine er_newaT (k := 0) (n := 136) (r := c + 11) (es' := [(6 + 5, 22, [some (c + 1), some (c + 2), none, some (c + 3), none, some (c + 4), none, none, some (c + 5), some (c + 6), some (c + 7), some (c + 8), some (c + 9), none, some (c + 10), some 0, some 0, some 0, some 0, some 0, none, some 0]), (0, 112, []), (0, 896, []), (2, 60, []), (0, 36, []), (0, 760, []), (0, 760, []), (0, 760, []), (0, 136, []), (0, 760, []), (1, 36, []), (0, 136, [])]) (Nat.le_of_ble_eq_true rfl) rfl ka_int (by decide) (by decide) ⟨Nat.le_of_ble_eq_true rfl, Nat.le_of_ble_eq_true rfl⟩ z10 rfl ⟨by rw [hc]; rfl, by omega⟩ rfl d_M_init_94 (fun m11 z11 => ?_)
  refine er_putFRT (rs' := [some (c + 1), some (c + 2), none, some (c + 3), none, some (c + 4), none, none, some (c + 5), some (c + 6), some (c + 7), some (c + 8), some (c + 9), none, some (c + 10), some (c + 11), some 0, some 0, some 0, some 0, none, some 0]) fl_M_42 rfl rfl hc (Nat.le_of_ble_eq_true rfl) (Nat.le_of_ble_eq_true rfl) (by omega) (fun a => ⟨rfl, rfl⟩) rfl d_M_init_96 ?_
  refine er_aload_n rfl rfl d_M_init_99 ?_
  refine er_sipush (by decide) d_M_init_100 ?_
  refine er_newaT (k := 0) (n := 136) (r := c + 12) (es' := [(6 + 5, 22, [some (c + 1), some (c + 2), none, some (c + 3), none, some (c + 4), none, none, some (c + 5), some (c + 6), some (c + 7), some (c + 8), some (c + 9), none, some (c + 10), some (c + 11), some 0, some 0, some 0, some 0, none, some 0]), (0, 112, []), (0, 896, []), (2, 60, []), (0, 36, []), (0, 760, []), (0, 760, []), (0, 760, []), (0, 136, []), (0, 760, []), (1, 36, []), (0, 136, []), (0, 136, [])]) (Nat.le_of_ble_eq_true rfl) rfl ka_int (by decide) (by decide) ⟨Nat.le_of_ble_eq_true rfl, Nat.le_of_ble_eq_true rfl⟩ z11 rfl ⟨by rw [hc]; rfl, by omega⟩ rfl d_M_init_103 (fun m12 z12 => ?_)
  refine er_putFRT (rs' := [some (c + 1), some (c + 2), none, some (c + 3), none, some (c + 4), none, none, some (c + 5), some (c + 6), some (c + 7), some (c + 8), some (c + 9), none, some (c + 10), some (c + 11), some (c + 12), some 0, some 0, some 0, none, some 0]) fl_M_45 rfl rfl hc (Nat.le_of_ble_eq_true rfl) (Nat.le_of_ble_eq_true rfl) (by omega) (fun a => ⟨rfl, rfl⟩) rfl d_M_init_105 ?_
  refine er_aload_n rfl rfl d_M_init_108 ?_
  refine er_sipush (by decide) d_M_init_109 ?_
  refine er_newaT (k := 1) (n := 136) (r := c + 13) (es' := [(6 + 5, 22, [some (c + 1), some (c + 2), none, some (c + 3), none, some (c + 4), none, none, some (c + 5), some (c + 6), some (c + 7), some (c + 8), some (c + 9), none, some (c + 10), some (c + 11), some (c + 12), some 0, some 0, some 0, none, some 0]), (0, 112, []), (0, 896, []), (2, 60, []), (0, 36, []), (0, 760, []), (0, 760, []), (0, 760, []), (0, 136, []), (0, 760, []), (1, 36, []), (0, 136, []), (0, 136, []), (1, 136, [])]) (Nat.le_of_ble_eq_true rfl) rfl ka_boolean (by decide) (by decide) ⟨Nat.le_of_ble_eq_true rfl, Nat.le_of_ble_eq_true rfl⟩ z12 rfl ⟨by rw [hc]; rfl, by omega⟩ rfl d_M_init_112 (fun m13 z13 => ?_)
  refine er_putFRT (rs' := [some (c + 1), some (c + 2), none, some (c + 3), none, some (c + 4), none, none, some (c + 5), some (c + 6), some (c + 7), some (c + 8), some (c + 9), none, some (c + 10), some (c + 11), some (c + 12), some (c + 13), some 0, some 0, none, some 0]) fl_M_48 rfl rfl hc (Nat.le_of_ble_eq_true rfl) (Nat.le_of_ble_eq_true rfl) (by omega) (fun a => ⟨rfl, rfl⟩) rfl d_M_init_114 ?_
  refine er_aload_n rfl rfl d_M_init_117 ?_
  refine er_bipush (by decide) d_M_init_118 ?_
  refine er_newaT (k := 0) (n := 36) (r := c + 14) (es' := [(6 + 5, 22, [some (c + 1), some (c + 2), none, some (c + 3), none, some (c + 4), none, none, some (c + 5), some (c + 6), some (c + 7), some (c + 8), some (c + 9), none, some (c + 10), some (c + 11), some (c + 12), some (c + 13), some 0, some 0, none, some 0]), (0, 112, []), (0, 896, []), (2, 60, []), (0, 36, []), (0, 760, []), (0, 760, []), (0, 760, []), (0, 136, []), (0, 760, []), (1, 36, []), (0, 136, []), (0, 136, []), (1, 136, []), (0, 36, [])]) (Nat.le_of_ble_eq_true rfl) rfl ka_int (by decide) (by decide) ⟨Nat.le_of_ble_eq_true rfl, Nat.le_of_ble_eq_true rfl⟩ z13 rfl ⟨by rw [hc]; rfl, by omega⟩ rfl d_M_init_120 (fun m14 z14 => ?_)
  refine er_putFRT (rs' := [some (c + 1), some (c + 2), none, some (c + 3), none, some (c + 4), none, none, some (c + 5), some (c + 6), some (c + 7), some (c + 8), some (c + 9), none, some (c + 10), some (c + 11), some (c + 12), some (c + 13), some (c + 14), some 0, none, some 0]) fl_M_51 rfl rfl hc (Nat.le_of_ble_eq_true rfl) (Nat.le_of_ble_eq_true rfl) (by omega) (fun a => ⟨rfl, rfl⟩) rfl d_M_init_122 ?_
  refine er_aload_n rfl rfl d_M_init_125 ?_
  refine er_bipush (by decide) d_M_init_126 ?_
  refine er_newaT (k := 0) (n := 36) (r := c + 15) (es' := [(6 + 5, 22, [some (c + 1), some (c + 2), none, some (c + 3), none, some (c + 4), none, none, some (c + 5), some (c + 6), some (c + 7), some (c + 8), some (c + 9), none, some (c + 10), some (c + 11), some (c + 12), some (c + 13), some (c + 14), some 0, none, some 0]), (0, 112, []), (0, 896, []), (2, 60, []), (0, 36, []), (0, 760, []), (0, 760, []), (0, 760, []), (0, 136, []), (0, 760, []), (1, 36, []), (0, 136, []), (0, 136, []), (1, 136, []), (0, 36, []), (0, 36, [])]) (Nat.le_of_ble_eq_true rfl) rfl ka_int (by decide) (by decide) ⟨Nat.le_of_ble_eq_true rfl, Nat.le_of_ble_eq_true rfl⟩ z14 rfl ⟨by rw [hc]; rfl, by omega⟩ rfl d_M_init_128 (fun m15 z15 => ?_)
  refine er_putFRT (rs' := [some (c + 1), some (c + 2), none, some (c + 3), none, some (c + 4), none, none, some (c + 5), some (c + 6), some (c + 7), some (c + 8), some (c + 9), none, some (c + 10), some (c + 11), some (c + 12), some (c + 13), some (c + 14), some (c + 15), none, some 0]) fl_M_54 rfl rfl hc (Nat.le_of_ble_eq_true rfl) (Nat.le_of_ble_eq_true rfl) (by omega) (fun a => ⟨rfl, rfl⟩) rfl d_M_init_130 ?_
  refine er_aload_n rfl rfl d_M_init_133 ?_
  refine er_sipush (by decide) d_M_init_134 ?_
  refine er_newaT (k := 0) (n := 760) (r := c + 16) (es' := [(6 + 5, 22, [some (c + 1), some (c + 2), none, some (c + 3), none, some (c + 4), none, none, some (c + 5), some (c + 6), some (c + 7), some (c + 8), some (c + 9), none, some (c + 10), some (c + 11), some (c + 12), some (c + 13), some (c + 14), some (c + 15), none, some 0]), (0, 112, []), (0, 896, []), (2, 60, []), (0, 36, []), (0, 760, []), (0, 760, []), (0, 760, []), (0, 136, []), (0, 760, []), (1, 36, []), (0, 136, []), (0, 136, []), (1, 136, []), (0, 36, []), (0, 36, []), (0, 760, [])]) (Nat.le_of_ble_eq_true rfl) rfl ka_int (by decide) (by decide) ⟨Nat.le_of_ble_eq_true rfl, Nat.le_of_ble_eq_true rfl⟩ z15 rfl ⟨by rw [hc]; rfl, by omega⟩ rfl d_M_init_137 (fun m16 z16 => ?_)
  refine er_putFRT (rs' := [some (c + 1), some (c + 2), none, some (c + 3), none, some (c + 4), none, none, some (c + 5), some (c + 6), some (c + 7), some (c + 8), some (c + 9), none, some (c + 10), some (c + 11), some (c + 12), some (c + 13), some (c + 14), some (c + 15), none, some (c + 16)]) fl_M_57 rfl rfl hc (Nat.le_of_ble_eq_true rfl) (Nat.le_of_ble_eq_true rfl) (by omega) (fun a => ⟨rfl, rfl⟩) rfl d_M_init_139 ?_
  rw [hsh]
  refine er_aload_n rfl rfl d_M_init_142 ?_
  refine er_getR fl_M_7 a1 (Nat.le_of_ble_eq_true rfl) rfl (by omega) d_M_init_143 ?_
  refine er_iconst d_M_init_146 ?_
  refine er_iconst d_M_init_147 ?_
  refine er_iast a2 (by decide) (by decide) (by decide) d_M_init_148 ?_
  refine er_aload_n rfl rfl d_M_init_149 ?_
  refine er_getR fl_M_7 a1 (Nat.le_of_ble_eq_true rfl) rfl (by omega) d_M_init_150 ?_
  refine er_iconst d_M_init_153 ?_
  refine er_iconst d_M_init_154 ?_
  refine er_iast a2 (by decide) (by decide) (by decide) d_M_init_155 ?_
  refine er_aload_n rfl rfl d_M_init_156 ?_
  refine er_getR fl_M_7 a1 (Nat.le_of_ble_eq_true rfl) rfl (by omega) d_M_init_157 ?_
  refine er_iconst d_M_init_160 ?_
  refine er_iconst d_M_init_161 ?_
  refine er_iast a2 (by decide) (by decide) (by decide) d_M_init_162 ?_
  refine er_aload_n rfl rfl d_M_init_163 ?_
  refine er_getR fl_M_7 a1 (Nat.le_of_ble_eq_true rfl) rfl (by omega) d_M_init_164 ?_
  refine er_iconst d_M_init_167 ?_
  refine er_iconst d_M_init_168 ?_
  refine er_iast a2 (by decide) (by decide) (by decide) d_M_init_169 ?_
  refine er_iconst d_M_init_170 ?_
  refine er_istG (ls2 := [some (.inr c), some (.inl 0)]) 1 rfl (Nat.le_of_ble_eq_true rfl) rfl d_M_init_171 ?_
  have w : ∀ k : Int, m16 (c + 1) k = 0 := fun k => z16.2.2 _ _ (by omega) (by omega)
  refine loop 36 0 _ rfl (((((z16.1).tr (er_kp.st (by omega))).tr (er_kp.st (by omega))).tr (er_kp.st (by omega))).tr (er_kp.st (by omega))) (fun k => ?_) ?_ ?_ ?_ ?_ (fun j j0 j1 => by omega) (fun j j0 => ?_)
  · rw [er_st_c (by omega), er_st_c (by omega), er_st_c (by omega), er_st_c (by omega)]; exact z16.2.1 k
  · rw [er_st_k (by decide), er_st_k (by decide), er_st_k (by decide), er_st_s]
  · rw [er_st_k (by decide), er_st_k (by decide), er_st_s]
  · rw [er_st_k (by decide), er_st_s]
  · rw [er_st_s]
  · rw [er_st_k (by omega), er_st_k (by omega), er_st_k (by omega), er_st_k (by omega)]; exact w j
end ERCM
