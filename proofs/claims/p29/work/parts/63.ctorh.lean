/-! constructors: the history -/
section ERCH
variable {K : er_K} {c : Nat} {sh0 : er_Sh}
/-- k boards, the first at b -/
def er_bsh (b : Nat) : Nat → er_Sh
  | 0 => []
  | k + 1 => er_bsh b k ++ [(0 + 5, 7, [none, none, none, none, some (b + 4 * k + 1), some (b + 4 * k + 2), some (b + 4 * k + 3)]), (0, 36, []), (0, 36, []), (1, 36, [])]
theorem er_bsh_len (b k : Nat) : (er_bsh b k).length = 4 * k := by
  induction k with
  | zero => rfl
  | succ k ih => simp only [er_bsh, List.length_append, ih, List.length_cons, List.length_nil]; omega
theorem er_rsB : ∀ j, j < 7 → ([none, none, none, none, some 0, some 0, some 0].getD j none = none ∧ defaultValue (er_tB j) = .int 0) ∨ ([none, none, none, none, some 0, some 0, some 0].getD j none = some 0 ∧ defaultValue (er_tB j) = .null) := by
  intro j hj
  rcases (by omega : j = 0 ∨ j = 1 ∨ j = 2 ∨ j = 3 ∨ j = 4 ∨ j = 5 ∨ j = 6) with e | e | e | e | e | e | e <;> subst e <;> first | exact Or.inl ⟨rfl, rfl⟩ | exact Or.inr ⟨rfl, rfl⟩
theorem sp_H_init {m : er_M} {Q : er_Post} (hc : c = sh0.length + 1) (hz : ∀ k, m c k = 0) (hQ : ∀ m', er_kp (fun q _ => c ≤ q) m m' → m' c 1 = 0 → (∀ j : Nat, j < 8 → m' (c + 1) (j : Int) = ((c + 2 + 4 * j : Nat) : Int)) → Q none (sh0 ++ (3 + 5, 2, [some (c + 1), none]) :: (3, 8, []) :: er_bsh (c + 2) 8) m') : er_Spec K mi_H_init [.inr c] (sh0 ++ [(3 + 5, 2, [some 0, none])]) m Q := by
  have loop : ∀ (d x : Nat) (m1 : er_M), x + d = 8 → er_kp (fun q _ => c ≤ q) m m1 → m1 c 1 = 0 → (∀ j : Nat, j < x → m1 (c + 1) (j : Int) = ((c + 2 + 4 * j : Nat) : Int)) → er_WP K mi_H_init (1 + 4 * x) (8 + 115 * x) (sh0 ++ (3 + 5, 2, [some (c + 1), none]) :: (3, 8, []) :: er_bsh (c + 2) x) m1 15 [some (.inr c), some (.inl (x : Int))] [] (er_Z K mi_H_init Q) := by
    intro d
    induction d with
    | zero =>
      intro x m1 hx hk h1 hj
      have hx8 : x = 8 := by omega
      subst hx8
      refine er_iload_n rfl rfl d_H_init_15 ?_
      refine er_bipush (by decide) d_H_init_16 ?_
      refine er_icmp_ge (tgt := 40) (by decide) (by decide) (by decide) d_H_init_18 (fun _ => ?_) (fun hlt => by omega)
      refine er_aload_n rfl rfl d_H_init_40 ?_
      refine er_iconst d_H_init_41 ?_
      refine er_putI fl_H_16 (by rw [er_at_top (k := 0) hc]; rfl) (Nat.le_of_ble_eq_true rfl) rfl d_H_init_42 ?_
      exact er_vret rfl rfl (Nat.le_of_ble_eq_true rfl) d_H_init_45 (hQ _ (hk.tr (er_kp.st (Nat.le_refl c))) (er_st_s _ _ _ _) (fun j hj8 => by rw [er_st_c (by omega)]; exact hj j hj8))
    | succ d ih =>
      intro x m1 hx hk h1 hj
      have hlen : (sh0 ++ (3 + 5, 2, [some (c + 1), none]) :: (3, 8, []) :: er_bsh (c + 2) x).length + 1 = c + 2 + 4 * x := by
        rw [List.length_append, List.length_cons, List.length_cons, er_bsh_len, hc]; omega
      refine er_iload_n rfl rfl d_H_init_15 ?_
      refine er_bipush (by decide) d_H_init_16 ?_
      refine er_icmp_ge (tgt := 40) (by decide) ⟨by omega, by omega⟩ (by decide) d_H_init_18 (fun hge => by omega) (fun _ => ?_)
      refine er_aload_n rfl rfl d_H_init_21 ?_
      refine er_getR fl_H_11 (by rw [er_at_top (k := 0) hc]; rfl) (Nat.le_of_ble_eq_true rfl) rfl (by omega) d_H_init_22 ?_
      refine er_iload_n rfl rfl d_H_init_25 ?_
      refine er_new (ci := 0) (N := 7) (rs0 := [none, none, none, none, some 0, some 0, some 0]) rfl er_iB er_tB_ok kn_H_9 er_rsB ⟨by show 1 + 4 * x + 1 ≤ 33; omega, by show 8 + 115 * x + 7 ≤ 928; omega⟩ d_H_init_26 ?_
      rw [hlen]
      refine er_dup d_H_init_29 ?_
      refine er_callI (b := c + 2 + 4 * x) (As := []) (st := [.inr (c + 2 + 4 * x), .inl (x : Int), .inr (c + 1)]) ml_H_15 rfl rfl mw_B_init md_B_init rfl rfl (Nat.le_of_ble_eq_true rfl) ⟨Nat.le_of_ble_eq_true rfl, Nat.le_of_ble_eq_true rfl⟩ ⟨by show 1 + 4 * x + 1 + 3 ≤ 33; omega, by show 8 + 115 * x + 7 + 108 ≤ 928; omega⟩ d_H_init_30 (sp_B_init (c := c + 2 + 4 * x) hlen.symm (fun k => by show (if _ then _ else _) = _; rw [if_pos rfl]) (Q := fun v s2 m2 => v = none ∧ s2 = sh0 ++ (3 + 5, 2, [some (c + 1), none]) :: (3, 8, []) :: er_bsh (c + 2) (x + 1) ∧ er_kp (fun q _ => c + 2 + 4 * x ≤ q) (er_clr m1 (c + 2 + 4 * x)) m2) (fun m' q1 _ _ _ _ _ => ⟨rfl, by simp only [er_bsh, List.append_assoc, List.cons_append], q1⟩)) (fun v s2 m2 hq => ?_)
      obtain ⟨rfl, rfl, k2⟩ := hq
      have low : ∀ q k, q < c + 2 + 4 * x → m2 q k = m1 q k := fun q k hq => by
        rw [k2 q k (by omega)]
        show (if _ then _ else _) = _
        rw [if_neg (by omega)]
      refine er_aast (k := 3) (ci := 0) (n := 8) (N := 7) (by rw [er_at_top (k := 1) (by omega)]; rfl) (Or.inl ⟨rfl, rfl⟩) (by decide) (by omega) (by omega) (r := c + 2 + 4 * x) (rs2 := [none, none, none, none, some (c + 2 + 4 * x + 1), some (c + 2 + 4 * x + 2), some (c + 2 + 4 * x + 3)]) (by
        rw [er_at_top (k := 1 + (4 * x + 1)) (by omega)]
        show ((3, 8, []) :: er_bsh (c + 2) (x + 1))[1 + 4 * x]? = _
        rw [show 1 + 4 * x = 4 * x + 1 by omega]
        show (er_bsh (c + 2) (x + 1))[4 * x]? = _
        rw [er_bsh, List.getElem?_append_right (by rw [er_bsh_len]; exact Nat.le_refl _), er_bsh_len, Nat.sub_self]
        rfl) d_H_init_33 ?_
      refine er_incG (ls2 := [some (.inr c), some (.inl ((x + 1 : Nat) : Int))]) rfl (Nat.le_of_ble_eq_true rfl) rfl d_H_init_34 ?_
      refine er_goto (tgt := 15) (by decide) d_H_init_37 ?_
      have e1 : 1 + 4 * x + 1 + mi_B_init.2.2.2.2.cells = 1 + 4 * (x + 1) := by show 1 + 4 * x + 1 + 3 = _; omega
      have e2 : 8 + 115 * x + 7 + mi_B_init.2.2.2.2.slots = 8 + 115 * (x + 1) := by show 8 + 115 * x + 7 + 108 = _; omega
      rw [e1, e2]
      refine ih (x + 1) _ (by omega) (fun q k hq => ?_) (by rw [er_st_c (by omega), low _ _ (by omega)]; exact h1) (fun j hjx => ?_)
      · rw [er_st_c (by omega), low _ _ (by omega)]; exact hk q k hq
      · by_cases hjj : j = x
        · rw [hjj, er_st_s]
        · rw [er_st_k (by omega), low _ _ (by omega)]; exact hj j (by omega)
  refine er_start (by decide) (Nat.le_of_ble_eq_true rfl) ?_
  show er_WP K mi_H_init 0 0 (sh0 ++ [(3 + 5, 2, [some 0, none])]) m 0 [some (.inr c), none] [] _
  refine er_aload_n rfl rfl d_H_init_0 ?_
  refine er_obj mo_H_1 (Nat.le_of_ble_eq_true rfl) ⟨Nat.le_of_ble_eq_true rfl, Nat.le_of_ble_eq_true rfl⟩ d_H_init_1 ?_
  refine er_aload_n rfl rfl d_H_init_4 ?_
  refine er_bipush (by decide) d_H_init_5 ?_
  refine er_newq (k := 3) (C0 := "EscapeRouter$Board") (Or.inl ⟨rfl, rfl⟩) kl_H_9 (by decide) (by decide) ⟨Nat.le_of_ble_eq_true rfl, Nat.le_of_ble_eq_true rfl⟩ d_H_init_7 ?_
  have hlen : (sh0 ++ [((3 + 5, 2, [some 0, none]) : er_E)]).length + 1 = c + 1 := by rw [List.length_append, hc]; rfl
  rw [hlen, List.append_assoc]
  refine er_putFRT (tl := [(3, 8, [])]) (rs' := [some (c + 1), none]) fl_H_11 rfl rfl hc (Nat.le_of_ble_eq_true rfl) (Nat.le_of_ble_eq_true rfl) (by omega) (fun a => ⟨rfl, rfl⟩) rfl d_H_init_10 ?_
  refine er_iconst d_H_init_13 ?_
  refine er_istG (ls2 := [some (.inr c), some (.inl 0)]) 1 rfl (Nat.le_of_ble_eq_true rfl) rfl d_H_init_14 ?_
  refine loop 8 0 _ rfl (fun q k hq => ?_) ?_ (fun j hj => by omega)
  · show (if _ then _ else _) = _
    rw [if_neg (by omega)]
  · show (if _ then _ else _) = _
    rw [if_neg (by omega)]
    exact hz 1
end ERCH
