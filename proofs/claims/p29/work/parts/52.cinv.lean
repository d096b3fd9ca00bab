/-! the class between calls -/
noncomputable def er_Lsel (b : er_Bo) : List er_Ed := er_LC (er_bR b) (er_bC b) (er_bh b) (er_bt b) (er_bk b) (fun j => er_ic (er_bk b j = 0)) 1 (fun p => er_ic (er_bs b (p : Int) = 1))
noncomputable def er_Lthr (b : er_Bo) : List er_Ed := er_LC (er_bR b) (er_bC b) (er_bh b) (er_bt b) (er_bk b) (fun j => er_ic (er_bk b j ≠ 2)) 1000000 (fun p => 1000000 * er_ic (er_bk b (p : Int) = 1))
/-- the selection is worked out -/
def er_slv (m : er_M) (b : er_Bo) : Prop := er_CN 43 m (er_Lsel b) ∧ er_max (er_Lsel b) (m 47) (m 1 8) ∧ (∀ v : Int, 0 ≤ v → v < 136 → (er_mk 43 m v ↔ er_near (er_Lsel b) (m 47) v)) ∧ m 43 9 = 2 * (36 + ((er_pins (er_bR b) (er_bC b) (er_bk b) 1).length : Int) + ((er_tiles (er_bR b) (er_bC b) (er_bt b) 1000000).length : Int)) ∧ 0 ≤ m 1 8 ∧ m 1 8 ≤ 216
def er_CK (m : er_M) (c : Int) : Prop := er_MK 43 m ∧ m 43 10 ≤ c ∧ er_MK 52 m ∧ m 52 10 ≤ c
def er_CL (m : er_M) (b : er_Bo) : Prop := ∀ s : Nat, s < 4 → m 61 (s : Int) = ((62 + 5 * s : Nat) : Int) ∧ m (62 + 5 * s) 0 = (s : Int) ∧ (m (62 + 5 * s) 8 = 0 ∨ (m (62 + 5 * s) 8 = 1 ∧ er_LO (62 + 5 * s) b s m))
/-- what holds of the class's cells between calls -/
def er_CI (m : er_M) (b : er_Bo) (H : List er_Bo) (n : Nat) (f : Int → Int) (c : Int) : Prop := (er_CB 2 m b ∧ er_BV b ∧ er_HI m H ∧ er_TX m n f) ∧ ((m 1 7 = 0 ∨ (m 1 7 = 1 ∧ er_slv m b)) ∧ (m 1 9 = -9 ∨ (0 ≤ m 1 9 ∧ m 1 9 ≤ 216 ∧ ∃ rm, er_max (er_Lthr b) rm (m 1 9)))) ∧ er_CL m b ∧ er_CK m c
/-- nothing is known of the board -/
def er_C0 (m : er_M) (c : Int) : Prop := m 1 7 = 0 ∧ m 1 9 = -9 ∧ (∀ s : Nat, s < 4 → m 61 (s : Int) = ((62 + 5 * s : Nat) : Int) ∧ m (62 + 5 * s) 0 = (s : Int) ∧ m (62 + 5 * s) 8 = 0) ∧ er_CK m c
def er_cf : Nat → Int → Prop := fun c _ => 1 ≤ c ∧ c ≤ 82
theorem er_isY_s (s : Nat) (hs : s < 4) : er_isY (62 + 5 * s) := by
  unfold er_isY
  omega
theorem er_CK.kp {F : Nat → Int → Prop} {m m' : er_M} {c : Int} (h : er_CK m c) (hk : er_kp F m m') (hF : ∀ q k, 43 ≤ q → q ≤ 60 → ¬ F q k) : er_CK m' c := by
  obtain ⟨h1, h2, h3, h4⟩ := h
  refine ⟨h1.kpF hk (fun k => hF _ _ (by decide) (by decide)) (hF _ _ (by decide) (by decide)), ?_, h3.kpF hk (fun k => hF _ _ (by decide) (by decide)) (hF _ _ (by decide) (by decide)), ?_⟩
  · rw [hk _ _ (hF _ _ (by decide) (by decide))]; exact h2
  · rw [hk _ _ (hF _ _ (by decide) (by decide))]; exact h4
theorem er_C0.kp {F : Nat → Int → Prop} {m m' : er_M} {c : Int} (h : er_C0 m c) (hk : er_kp F m m') (hF : ∀ q k, q = 1 ∨ (43 ≤ q ∧ q ≤ 81) → ¬ F q k) : er_C0 m' c := by
  obtain ⟨h1, h2, h3, h4⟩ := h
  refine ⟨by rw [hk _ _ (hF _ _ (Or.inl rfl))]; exact h1, by rw [hk _ _ (hF _ _ (Or.inl rfl))]; exact h2, fun s hs => ?_, h4.kp hk (fun q k q0 q1 => hF q k (by omega))⟩
  rw [hk _ _ (hF 61 _ (by omega)), hk _ _ (hF (62 + 5 * s) _ (by omega)), hk _ _ (hF (62 + 5 * s) _ (by omega))]
  exact h3 s hs
theorem er_CI_new {m : er_M} {b : er_Bo} {H : List er_Bo} {n : Nat} {f : Int → Int} {c : Int} (h1 : er_CB 2 m b) (h2 : er_BV b) (h3 : er_HI m H) (h4 : er_TX m n f) (h5 : er_C0 m c) : er_CI m b H n f c :=
  ⟨⟨h1, h2, h3, h4⟩, ⟨Or.inl h5.1, Or.inl h5.2.1⟩, fun s hs => ⟨(h5.2.2.1 s hs).1, (h5.2.2.1 s hs).2.1, Or.inl (h5.2.2.1 s hs).2.2⟩, h5.2.2.2⟩
theorem er_TX.kp {F : Nat → Int → Prop} {m m' : er_M} {n : Nat} {f : Int → Int} (h : er_TX m n f) (hk : er_kp F m m') (h1 : ¬ F 40 1) (h2 : ∀ k, ¬ F 41 k) : er_TX m' n f :=
  ⟨h.1, by rw [hk _ _ h1]; exact h.2.1, fun j j0 j1 => by rw [hk _ _ (h2 j)]; exact h.2.2 j j0 j1⟩
section ERCI
variable {K : er_K} {m : er_M} {b : er_Bo}
theorem sp_B_has {r c : Int} {Q : Int → er_M → Prop} (hv : er_BV b) (hb : er_CB 2 m b) (ir : er_in r) (ic : er_in c) (h1 : er_obd b r c → Q 1 m) (h0 : ¬ er_obd b r c → Q 0 m) : er_SI K mi_B_has [.inr 2, .inl r, .inl c] m Q := by
  have g0 := hb.1
  have g1 := hb.2.1
  have hR := hv.2.1
  have hC := hv.2.2.2.1
  unfold er_obd at h1 h0
  exact vc_B_has ⟨ir, fun z => h0 (fun y => by omega), fun z1 => ⟨⟨by omega, by omega⟩, fun z => h0 (fun y => by omega), fun z2 => ⟨ic, fun z => h0 (fun y => by omega), fun z3 => ⟨⟨by omega, by omega⟩, fun z => h0 (fun y => by omega), fun z4 => h1 ⟨z1, by omega, z3, by omega⟩⟩⟩⟩⟩
theorem sp_B_isFree {x : Int} {Q : Int → er_M → Prop} (hv : er_BV b) (hb : er_CB 2 m b) (x0 : 0 ≤ x) (x1 : x < 36) (h1 : er_bk b x = 1 ∧ er_bp b x = -1 → Q 1 m) (h0 : ¬ (er_bk b x = 1 ∧ er_bp b x = -1) → Q 0 m) : er_SI K mi_B_isFreeForPair [.inr 2, .inl x] m Q := by
  obtain ⟨g3, g4, g5⟩ := hb.2.2.2.2 x x0 x1
  have hk := hv.2.2.2.2.2.2.2.2.1 x x0 x1
  have hp := hv.2.2.2.2.2.2.2.2.2.2.1 x x0 x1
  have g3' : m 3 x = er_bk b x := g3
  have g4' : m 4 x = er_bp b x := g4
  exact vc_B_isFreeForPair ⟨x0, x1, ⟨by omega, by omega⟩, fun z => h0 (fun y => by omega), fun z1 => ⟨by rcases hp with z | z <;> exact ⟨by omega, by omega⟩, fun z => h0 (fun y => by omega), fun z => h1 ⟨by omega, by omega⟩⟩⟩
theorem sp_B_separate {x : Int} {Q : er_M → Prop} (hv : er_BV b) (hb : er_CB 2 m b) (x0 : 0 ≤ x) (x1 : x < 36) (hQ : ∀ m', (∀ j : Int, 0 ≤ j → j < 36 → m' 4 j = er_sep (er_bp b) x j) → er_kp (fun c _ => c = 4) m m' → Q m') : er_SV K mi_B_separate [.inr 2, .inl x] m Q := by
  have g4 : ∀ j : Int, 0 ≤ j → j < 36 → m 4 j = er_bp b j := fun j j0 j1 => (hb.2.2.2.2 j j0 j1).2.1
  have hp := hv.2.2.2.2.2.2.2.2.2.2.1 x x0 x1
  have g4x := g4 x x0 x1
  refine vc_B_separate ⟨x0, x1, by rcases hp with z | z <;> exact ⟨by omega, by omega⟩, fun hz => hQ m (fun j j0 j1 => ?_) er_kp.rf, fun hz => ⟨by rcases hp with z | z <;> omega, by rcases hp with z | z <;> omega, fun m7 e7 m8 e8 => hQ m8 (fun j j0 j1 => ?_) (by rw [e8, e7]; exact (er_kp.st rfl).tr (er_kp.st rfl))⟩⟩
  · rw [er_sep_eq, if_pos (by omega)]; exact g4 j j0 j1
  · rw [er_sep_eq, if_neg (by omega), e8]
    by_cases hj : j = x
    · rw [if_pos hj, hj, er_st_s]
    · rw [if_neg hj, er_st_k hj, e7, g4x]
      by_cases hj2 : j = er_bp b x
      · rw [if_pos hj2, hj2, er_st_s]
      · rw [if_neg hj2, er_st_k hj2]; exact g4 j j0 j1
theorem sp_B_countPairs {Q : Int → er_M → Prop} (hv : er_BV b) (hb : er_CB 2 m b) (hQ : Q (er_npair b) m) : er_SI K mi_B_countPairs [.inr 2] m Q := by
  have loop : ∀ (d x : Nat), x + d = 36 → 0 ≤ er_sum x (fun p => er_ic ((p : Int) < er_bp b (p : Int))) → er_sum x (fun p => er_ic ((p : Int) < er_bp b (p : Int))) ≤ x → wp_B_countPairs_4 K (er_sum x (fun p => er_ic ((p : Int) < er_bp b (p : Int)))) (x : Int) m Q := by
    intro d
    induction d with
    | zero =>
      intro x hx s0 s1
      refine vc_B_countPairs_4 ⟨⟨by omega, by omega⟩, fun _ => ?_, fun hlt => by omega⟩
      rw [show x = 36 by omega]
      exact hQ
    | succ d ih =>
      intro x hx s0 s1
      have h4 : m 4 (x : Int) = er_bp b (x : Int) := (hb.2.2.2.2 x (by omega) (by omega)).2.1
      have hp := hv.2.2.2.2.2.2.2.2.2.2.1 (x : Int) (by omega) (by omega)
      have e : er_sum (x + 1) (fun p => er_ic ((p : Int) < er_bp b (p : Int))) = er_sum x (fun p => er_ic ((p : Int) < er_bp b (p : Int))) + er_ic ((x : Int) < er_bp b (x : Int)) := rfl
      have i2 := ih (x + 1) (by omega)
      rw [e] at i2
      refine vc_B_countPairs_4 ⟨⟨by omega, by omega⟩, fun hle => by omega, fun _ => ⟨by omega, by omega, by rcases hp with z | z <;> exact ⟨by omega, by omega⟩, fun hne => ?_, fun he => ?_⟩⟩
      · rw [er_ic_f (by omega), Int.add_zero] at i2
        exact i2 s0 (by omega)
      · rw [er_ic_t (by omega)] at i2
        exact i2 (by omega) (by omega)
  exact vc_B_countPairs (loop 36 0 rfl (Int.le_refl _) (Int.le_refl _))
theorem sp_B_countSelected {Q : Int → er_M → Prop} (hv : er_BV b) (hb : er_CB 2 m b) (hQ : Q (er_nsel b) m) : er_SI K mi_B_countSelected [.inr 2] m Q := by
  have loop : ∀ (d x : Nat), x + d = 36 → 0 ≤ er_sum x (fun p => er_bs b (p : Int)) → er_sum x (fun p => er_bs b (p : Int)) ≤ x → wp_B_countSelected_4 K (er_sum x (fun p => er_bs b (p : Int))) (x : Int) m Q := by
    intro d
    induction d with
    | zero =>
      intro x hx s0 s1
      refine vc_B_countSelected_4 ⟨⟨by omega, by omega⟩, fun _ => ?_, fun hlt => by omega⟩
      rw [show x = 36 by omega]
      exact hQ
    | succ d ih =>
      intro x hx s0 s1
      have h4 : m 5 (x : Int) = er_bs b (x : Int) := (hb.2.2.2.2 x (by omega) (by omega)).2.2
      have hp := hv.2.2.2.2.2.2.2.2.2.2.2 (x : Int) (by omega) (by omega)
      have e : er_sum (x + 1) (fun p => er_bs b (p : Int)) = er_sum x (fun p => er_bs b (p : Int)) + er_bs b (x : Int) := rfl
      have i2 := ih (x + 1) (by omega)
      rw [e] at i2
      refine vc_B_countSelected_4 ⟨⟨by omega, by omega⟩, fun hle => by omega, fun _ => ⟨by omega, by omega, by rcases hp with z | z <;> exact ⟨by omega, by omega⟩, fun hne => ?_, fun he => ?_⟩⟩
      · rw [show er_bs b (x : Int) = 0 by omega, Int.add_zero] at i2
        exact i2 s0 (by omega)
      · rw [show er_bs b (x : Int) = 1 by rcases hp with z | z <;> omega] at i2
        exact i2 (by omega) (by omega)
  exact vc_B_countSelected (loop 36 0 rfl (Int.le_refl _) (Int.le_refl _))
theorem sp_B_replaceGrid {st : er_pst} {Q : er_M → Prop} (hv : er_BV b) (hb : er_CB 2 m b) (hg : er_GR m st) (hj : er_PJ st) (h0 : st.1 ≠ 0) (hc0 : st.2.2.1 = 0) (hQ : ∀ m', er_CB 2 m' (er_b_grid b st) → er_kp (fun c _ => 2 ≤ c ∧ c ≤ 5) m m' → Q m') : er_SV K mi_B_replaceGrid [.inr 2, .inr 40] m Q := by
  obtain ⟨R, C, c, k⟩ := st
  have hv' := er_BV_grid hv hj h0 hc0
  obtain ⟨g1, g2, g3⟩ := hg
  obtain ⟨j1, j2, j3, j4, j5, j6, j7⟩ := hj
  simp only at j1 j2 j3 j4 j5 j6 j7 g1 g2 g3 h0 hc0
  have R1 : 1 ≤ R := by omega
  -- so far
  have stp : ∀ (r q : Nat) (m1 : er_M), r < 6 → q < 6 → er_kp (fun c _ => 2 ≤ c ∧ c ≤ 5) m m1 → m1 2 0 = (R : Int) → m1 2 1 = (C : Int) → m1 2 2 = er_bh b → m1 2 3 = er_bt b → (∀ j : Int, 0 ≤ j → j < 6 * (r : Int) + q → m1 3 j = k j ∧ m1 4 j = -1 ∧ m1 5 j = 0) → (∀ m2, er_kp (fun c _ => 2 ≤ c ∧ c ≤ 5) m m2 → m2 2 0 = (R : Int) → m2 2 1 = (C : Int) → m2 2 2 = er_bh b → m2 2 3 = er_bt b → (∀ j : Int, 0 ≤ j → j < 6 * (r : Int) + q + 1 → m2 3 j = k j ∧ m2 4 j = -1 ∧ m2 5 j = 0) → wp_B_replaceGrid_26 K (r : Int) ((q : Int) + 1) m2 Q) → wp_B_replaceGrid_26 K (r : Int) (q : Int) m1 Q := by
    intro r q m1 hr hq k1 a0 a1 a2 a3 hk hnext
    have put : ∀ v : Int, v = k (6 * (r : Int) + q) → ∀ m11 : er_M, m11 = er_st m1 3 ((r : Int) * 6 + q) v → ∀ m12 : er_M, m12 = er_st m11 4 ((r : Int) * 6 + q) (-1) → ∀ m13 : er_M, m13 = er_st m12 5 ((r : Int) * 6 + q) 0 → wp_B_replaceGrid_26 K (r : Int) ((q : Int) + 1) m13 Q := by
      intro v ev m11 e11 m12 e12 m13 e13
      have n13 : er_kp (fun c _ => 3 ≤ c ∧ c ≤ 5) m1 m13 := by rw [e13, e12, e11]; exact ((er_kp.st (by omega)).tr (er_kp.st (by omega))).tr (er_kp.st (by omega))
      have n2 : ∀ i, m13 2 i = m1 2 i := fun i => n13 2 i (by omega)
      refine hnext m13 (k1.tr (n13.wk (fun c k z => by omega))) (by rw [n2]; exact a0) (by rw [n2]; exact a1) (by rw [n2]; exact a2) (by rw [n2]; exact a3) (fun j j0 j1' => ?_)
      rw [show (r : Int) * 6 + q = 6 * (r : Int) + q by omega] at e11 e12 e13
      by_cases hjj : j = 6 * (r : Int) + q
      · rw [hjj]
        refine ⟨?_, ?_, ?_⟩
        · rw [e13, er_st_c (by decide), e12, er_st_c (by decide), e11, er_st_s, ev]
        · rw [e13, er_st_c (by decide), e12, er_st_s]
        · rw [e13, er_st_s]
      · have := hk j j0 (by omega)
        refine ⟨?_, ?_, ?_⟩
        · rw [e13, er_st_c (by decide), e12, er_st_c (by decide), e11, er_st_k hjj]; exact this.1
        · rw [e13, er_st_c (by decide), e12, er_st_k hjj, e11, er_st_c (by decide)]; exact this.2.1
        · rw [e13, er_st_k hjj, e12, er_st_c (by decide), e11, er_st_c (by decide)]; exact this.2.2
    have hon : ∀ Q' : Int → er_M → Prop, (((r : Int) < R ∧ (q : Int) < C) → Q' 1 m1) → (¬ ((r : Int) < R ∧ (q : Int) < C) → Q' 0 m1) → er_SI K mi_B_has [.inr 2, .inl (r : Int), .inl (q : Int)] m1 Q' := fun Q' h1 h0' => vc_B_has ⟨⟨by omega, by omega⟩, fun z => h0' (fun y => by omega), fun z1 => ⟨⟨by omega, by omega⟩, fun z => h0' (fun y => by omega), fun z2 => ⟨⟨by omega, by omega⟩, fun z => h0' (fun y => by omega), fun z3 => ⟨⟨by omega, by omega⟩, fun z => h0' (fun y => by omega), fun z4 => h1 ⟨by omega, by omega⟩⟩⟩⟩⟩
    refine vc_B_replaceGrid_26 ⟨⟨by omega, by omega⟩, fun hle => by omega, fun _ => vc_R_placeOf (hon _ (fun hyes => ?_) (fun hno => ?_))⟩
    · refine ⟨by decide, fun z => absurd z (by decide), fun _ => ⟨by omega, by omega, put _ ?_⟩⟩
      rw [k1 42 _ (by omega), show (r : Int) * 6 + q = 6 * (r : Int) + q by omega]
      refine g3 _ (by omega) (by omega) ?_
      unfold er_wr
      simp only
      omega
    · refine ⟨by decide, fun _ => ⟨by omega, by omega, put _ ?_⟩, fun z => absurd rfl z⟩
      refine ((j7 _ (by omega) (by omega)).2.2 (fun hw => hno ?_)).symm
      unfold er_wr at hw
      simp only at hw
      omega
  have inner : ∀ (r : Nat), r < 6 → (∀ m2, er_kp (fun c _ => 2 ≤ c ∧ c ≤ 5) m m2 → m2 2 0 = (R : Int) → m2 2 1 = (C : Int) → m2 2 2 = er_bh b → m2 2 3 = er_bt b → (∀ j : Int, 0 ≤ j → j < 6 * (r : Int) + 6 → m2 3 j = k j ∧ m2 4 j = -1 ∧ m2 5 j = 0) → wp_B_replaceGrid_18 K ((r : Int) + 1) m2 Q) → ∀ (d q : Nat) (m1 : er_M), q + d = 6 → er_kp (fun c _ => 2 ≤ c ∧ c ≤ 5) m m1 → m1 2 0 = (R : Int) → m1 2 1 = (C : Int) → m1 2 2 = er_bh b → m1 2 3 = er_bt b → (∀ j : Int, 0 ≤ j → j < 6 * (r : Int) + q → m1 3 j = k j ∧ m1 4 j = -1 ∧ m1 5 j = 0) → wp_B_replaceGrid_26 K (r : Int) (q : Int) m1 Q := by
    intro r hr hnext d
    induction d with
    | zero =>
      intro q m1 hq k1 a0 a1 a2 a3 hk
      exact vc_B_replaceGrid_26 ⟨⟨by omega, by omega⟩, fun _ => hnext m1 k1 a0 a1 a2 a3 (fun j j0 j1' => hk j j0 (by omega)), fun hlt => by omega⟩
    | succ d ih =>
      intro q m1 hq k1 a0 a1 a2 a3 hk
      exact stp r q m1 hr (by omega) k1 a0 a1 a2 a3 hk (fun m2 b1 b2 b3 b4 b5 b6 => ih (q + 1) m2 (by omega) b1 b2 b3 b4 b5 (fun j j0 j1' => b6 j j0 (by omega)))
  have outer : ∀ (d r : Nat) (m1 : er_M), r + d = 6 → er_kp (fun c _ => 2 ≤ c ∧ c ≤ 5) m m1 → m1 2 0 = (R : Int) → m1 2 1 = (C : Int) → m1 2 2 = er_bh b → m1 2 3 = er_bt b → (∀ j : Int, 0 ≤ j → j < 6 * (r : Int) → m1 3 j = k j ∧ m1 4 j = -1 ∧ m1 5 j = 0) → wp_B_replaceGrid_18 K (r : Int) m1 Q := by
    intro d
    induction d with
    | zero =>
      intro r m1 hr k1 a0 a1 a2 a3 hk
      exact vc_B_replaceGrid_18 ⟨⟨by omega, by omega⟩, fun _ => hQ m1 ⟨a0, a1, a2, a3, fun j j0 j1' => hk j j0 (by omega)⟩ k1, fun hlt => by omega⟩
    | succ d ih =>
      intro r m1 hr k1 a0 a1 a2 a3 hk
      exact vc_B_replaceGrid_18 ⟨⟨by omega, by omega⟩, fun hle => by omega, fun _ => inner r (by omega) (fun m2 b1 b2 b3 b4 b5 b6 => ih (r + 1) m2 (by omega) b1 b2 b3 b4 b5 (fun j j0 j1' => b6 j j0 (by omega))) 6 0 m1 rfl k1 a0 a1 a2 a3 (fun j j0 j1' => hk j j0 (by omega))⟩
  refine vc_B_replaceGrid (fun m1 e1 m2 e2 => ?_)
  refine outer 6 0 m2 rfl (by rw [e2, e1]; exact (er_kp.st (by omega)).tr (er_kp.st (by omega))) ?_ ?_ ?_ ?_ (fun j j0 j1' => by omega)
  · rw [e2, er_st_k (by decide), e1, er_st_s]; exact g1
  · rw [e2, er_st_s, e1, er_st_c (by decide)]; exact g2
  · rw [e2, er_st_k (by decide), e1, er_st_k (by decide)]; exact hb.2.2.1
  · rw [e2, er_st_k (by decide), e1, er_st_k (by decide)]; exact hb.2.2.2.1
def er_fgF : Nat → Int → Prop := fun c k => (c = 1 ∧ (k = 7 ∨ k = 9)) ∨ ((c = 62 ∨ c = 67 ∨ c = 72 ∨ c = 77) ∧ k = 8)
theorem sp_R_forget {Q : er_M → Prop} (h : ∀ s : Nat, s < 4 → m 61 (s : Int) = ((62 + 5 * s : Nat) : Int)) (hQ : ∀ m', m' 1 7 = 0 → m' 1 9 = -9 → (∀ s : Nat, s < 4 → m' (62 + 5 * s) 8 = 0) → er_kp er_fgF m m' → Q m') : er_SV K mi_R_forgetResults [.inr 1] m Q := by
  have loop : ∀ (d x : Nat) (m1 : er_M), x + d = 4 → m1 1 7 = 0 → m1 1 9 = -9 → (∀ s : Nat, s < x → m1 (62 + 5 * s) 8 = 0) → er_kp er_fgF m m1 → wp_R_forgetResults_13 K (x : Int) m1 Q := by
    intro d
    induction d with
    | zero =>
      intro x m1 hx h7 h9 h8 hk
      exact vc_R_forgetResults_13 ⟨⟨by omega, by omega⟩, fun _ => hQ m1 h7 h9 (fun s hs => h8 s (by omega)) hk, fun hlt => by omega⟩
    | succ d ih =>
      intro x m1 hx h7 h9 h8 hk
      refine vc_R_forgetResults_13 ⟨⟨by omega, by omega⟩, fun hle => by omega, fun _ => ⟨by omega, by omega, 62 + 5 * x, by rw [hk 61 _ (by unfold er_fgF; omega)]; exact h x (by omega), er_isY_s x (by omega), fun m8 e8 => ?_⟩⟩
      refine ih (x + 1) m8 (by omega) (by rw [e8, er_st_c (by omega)]; exact h7) (by rw [e8, er_st_c (by omega)]; exact h9) (fun s hs => ?_) (hk.tr (by rw [e8]; exact er_kp.st (by unfold er_fgF; omega)))
      rw [e8]
      by_cases hsx : s = x
      · rw [hsx, er_st_s]
      · rw [er_st_c (by omega)]; exact h8 s (by omega)
  refine vc_R_forgetResults (fun m1 e1 m2 e2 => ?_)
  exact loop 4 0 m2 rfl (by rw [e2, er_st_k (by decide), e1, er_st_s]) (by rw [e2, er_st_s]) (fun s hs => by omega) (by rw [e2, e1]; exact (er_kp.st (by unfold er_fgF; omega)).tr (er_kp.st (by unfold er_fgF; omega)))
theorem sp_R_beginEdit {H : List er_Bo} {n : Nat} {f : Int → Int} {c : Int} {Q : er_M → Prop} (h : er_CI m b H n f c) (hQ : ∀ m', er_CB 2 m' b → er_HI m' (er_push H b) → er_TX m' n f → er_C0 m' c → er_kp er_cf m m' → (∀ c k, (2 ≤ c ∧ c ≤ 5) ∨ (40 ≤ c ∧ c ≤ 42) → m' c k = m c k) → Q m') : er_SV K mi_R_beginEdit [.inr 1] m Q := by
  obtain ⟨⟨hb, hv, hh, ht⟩, hs, hl, hk⟩ := h
  refine vc_R_beginEdit (sp_H_keep hh hb hv (fun m1 h1 k1 => ?_))
  refine sp_R_forget (fun s hs => by rw [k1 61 _ (by unfold er_HF; omega)]; exact (hl s hs).1) (fun m2 a7 a9 a8 k2 => ?_)
  have k12 : er_kp er_cf m m2 := (k1.wk (fun c k z => by unfold er_HF at z; unfold er_cf; omega)).tr (k2.wk (fun c k z => by unfold er_fgF at z; unfold er_cf; omega))
  have same : ∀ c k, (2 ≤ c ∧ c ≤ 5) ∨ (40 ≤ c ∧ c ≤ 42) → m2 c k = m c k := fun c k hc => by rw [k2 c k (by unfold er_fgF; omega), k1 c k (by unfold er_HF; omega)]
  refine hQ m2 ((hb.kp k1 (fun q k q0 q1 => by unfold er_HF; omega)).kp k2 (fun q k q0 q1 => by unfold er_fgF; omega)) (h1.kp k2 (fun q k q0 q1 => by unfold er_fgF; omega)) ((ht.kp k1 (by unfold er_HF; omega) (fun k => by unfold er_HF; omega)).kp k2 (by unfold er_fgF; omega) (fun k => by unfold er_fgF; omega)) ⟨a7, a9, fun s hs => ⟨?_, ?_, a8 s hs⟩, (hk.kp k1 (fun q k q0 q1 => by unfold er_HF; omega)).kp k2 (fun q k q0 q1 => by unfold er_fgF; omega)⟩ k12 same
  · rw [k2 61 _ (by unfold er_fgF; omega), k1 61 _ (by unfold er_HF; omega)]; exact (hl s hs).1
  · rw [k2 _ 0 (by unfold er_fgF; omega), k1 _ 0 (by unfold er_HF; omega)]; exact (hl s hs).2.1
end ERCI
