/-! the text and the grid that it says -/
/-- the kind that a character says -/
def er_pk (c : Int) : Int := if c = 46 then 0 else if c = 112 then 2 else if c = 115 then 1 else -1
/-- rows, columns, column, kinds -/
abbrev er_pst : Type := Nat × Nat × Nat × (Int → Int)
def er_stp (c : Int) (st : er_pst) : Option er_pst :=
  if c = 32 then some st
  else if 6 ≤ st.1 then none
  else if c = 59 then (if (st.1 = 0 ∧ 0 < st.2.2.1) ∨ (st.1 ≠ 0 ∧ st.2.2.1 = st.2.1) then some (st.1 + 1, st.2.2.1, 0, st.2.2.2) else none)
  else if er_pk c ≠ -1 ∧ st.2.2.1 < st.2.1 then some (st.1, st.2.1, st.2.2.1 + 1, er_u st.2.2.2 (6 * (st.1 : Int) + st.2.2.1) (er_pk c)) else none
def er_rd (f : Int → Int) : Nat → Nat → er_pst → Int × er_pst
  | 0, i, st => (if st.1 ≠ 0 ∧ st.2.2.1 = 0 then -1 else (i : Int), st)
  | d + 1, i, st => match er_stp (f i) st with
    | none => ((i : Int), st)
    | some st' => er_rd f d (i + 1) st'
def er_st0 : er_pst := (0, 6, 0, fun _ => 0)
def er_wr (st : er_pst) (j : Int) : Prop := (j / 6 < st.1 ∧ j % 6 < st.2.1) ∨ (j / 6 = st.1 ∧ j % 6 < st.2.2.1)
def er_PJ (st : er_pst) : Prop := st.1 ≤ 6 ∧ st.2.2.1 ≤ st.2.1 ∧ st.2.1 ≤ 6 ∧ 1 ≤ st.2.1 ∧ (st.1 = 0 → st.2.1 = 6) ∧ (st.1 = 6 → st.2.2.1 = 0) ∧ ∀ j : Int, 0 ≤ j → j < 36 → 0 ≤ st.2.2.2 j ∧ st.2.2.2 j ≤ 2 ∧ (¬ er_wr st j → st.2.2.2 j = 0)
theorem er_PJ_0 : er_PJ er_st0 := ⟨by decide, by decide, by decide, by decide, fun _ => rfl, fun _ => rfl, fun j _ _ => ⟨Int.le_refl 0, (by decide : (0 : Int) ≤ 2), fun _ => rfl⟩⟩
theorem er_pk_or (c : Int) : (c = 46 ∧ er_pk c = 0) ∨ (c = 112 ∧ er_pk c = 2) ∨ (c = 115 ∧ er_pk c = 1) ∨ (c ≠ 46 ∧ c ≠ 112 ∧ c ≠ 115 ∧ er_pk c = -1) := by
  unfold er_pk
  split
  · omega
  · split
    · omega
    · split
      · omega
      · omega
theorem er_PJ_row {st : er_pst} (h : er_PJ st) (h6 : st.1 < 6) (hc : (st.1 = 0 ∧ 0 < st.2.2.1) ∨ (st.1 ≠ 0 ∧ st.2.2.1 = st.2.1)) : er_PJ (st.1 + 1, st.2.2.1, 0, st.2.2.2) := by
  obtain ⟨R, C, c, k⟩ := st
  obtain ⟨h1, h2, h3, h4, h5, h7, h8⟩ := h
  simp only at h1 h2 h3 h4 h5 h6 h7 hc h8
  refine ⟨by simp only; omega, Nat.zero_le _, by simp only; omega, by simp only; omega, fun z => by simp only at z; omega, fun _ => rfl, fun j j0 j1 => ?_⟩
  obtain ⟨g1, g2, g3⟩ := h8 j j0 j1
  refine ⟨g1, g2, fun hw => g3 (fun z => hw ?_)⟩
  unfold er_wr at z ⊢
  simp only at z ⊢
  omega
theorem er_PJ_pin {st : er_pst} {v : Int} (h : er_PJ st) (h6 : st.1 < 6) (hc : st.2.2.1 < st.2.1) (hv : 0 ≤ v ∧ v ≤ 2) : er_PJ (st.1, st.2.1, st.2.2.1 + 1, er_u st.2.2.2 (6 * (st.1 : Int) + st.2.2.1) v) := by
  obtain ⟨R, C, c, k⟩ := st
  obtain ⟨h1, h2, h3, h4, h5, h7, h8⟩ := h
  simp only at h1 h2 h3 h4 h5 h6 h7 hc h8
  refine ⟨h1, by simp only; omega, h3, h4, h5, fun z => by simp only at z; omega, fun j j0 j1 => ?_⟩
  obtain ⟨g1, g2, g3⟩ := h8 j j0 j1
  simp only
  by_cases hj : j = 6 * (R : Int) + c
  · rw [hj, er_u_s]
    refine ⟨hv.1, hv.2, fun hw => absurd (Or.inr ?_) hw⟩
    simp only
    omega
  · rw [er_u_n hj]
    refine ⟨g1, g2, fun hw => g3 (fun z => hw ?_)⟩
    unfold er_wr at z ⊢
    simp only at z ⊢
    omega
/-- the class's text; the reference's -/
def er_TX (m : er_M) (n : Nat) (f : Int → Int) : Prop := n ≤ 60 ∧ m 40 1 = (n : Int) ∧ ∀ j : Int, 0 ≤ j → j < n → m 41 j = f j ∧ 0 ≤ f j ∧ f j ≤ 255
def er_TM (m : er_M) (n : Nat) (f : Int → Int) : Prop := n ≤ 60 ∧ m 83 4 = (n : Int) ∧ ∀ j : Int, 0 ≤ j → j < n → m 86 j = (f j + 128) % 256 - 128 ∧ 0 ≤ f j ∧ f j ≤ 255
def er_GF : Nat → Int → Prop := fun c k => c = 42 ∨ (c = 40 ∧ (k = 2 ∨ k = 3))
def er_HM : Nat → Int → Prop := fun c k => c = 87 ∨ (c = 83 ∧ (k = 6 ∨ k = 7))
/-- the class has read so far -/
def er_GR (m : er_M) (st : er_pst) : Prop := m 40 2 = (st.1 : Int) ∧ m 40 3 = (st.2.1 : Int) ∧ ∀ j : Int, 0 ≤ j → j < 36 → er_wr st j → m 42 j = st.2.2.2 j
/-- the reference has read so far -/
def er_GM (m : er_M) (st : er_pst) : Prop := m 83 6 = (st.1 : Int) ∧ (st.1 ≠ 0 → m 83 7 = (st.2.1 : Int)) ∧ er_in (m 83 7) ∧ ∀ j : Int, 0 ≤ j → j < 36 → m 87 j = st.2.2.2 j
section ERX
variable {K : er_K} {m : er_M}
theorem sp_G_kindOf {c : Int} {Q : Int → er_M → Prop} (hc : 0 ≤ c ∧ c ≤ 255) (hQ : Q (er_pk c) m) : er_SI K mi_G_kindOf [.inl c] m Q := by
  have h := er_pk_or c
  refine vc_G_kindOf ⟨⟨by omega, by omega⟩, fun z => ?_, fun z => ?_, fun z => ?_, fun z => ?_⟩
  · rw [show er_pk c = 0 by omega] at hQ; exact hQ
  · rw [show er_pk c = 2 by omega] at hQ; exact hQ
  · rw [show er_pk c = 1 by omega] at hQ; exact hQ
  · rw [show er_pk c = -1 by omega] at hQ; exact hQ
theorem sp_G_read {n : Nat} {f : Int → Int} {Q : Int → er_M → Prop} (h : er_TX m n f) (hQ : ∀ m' r st, er_rd f n 0 er_st0 = (r, st) → er_PJ st → er_GR m' st → er_kp er_GF m m' → Q r m') : er_SI K mi_G_read [.inr 40] m Q := by
  have loop : ∀ (d i R C c : Nat) (k : Int → Int) (m1 : er_M), i + d = n → er_rd f d i (R, C, c, k) = er_rd f n 0 er_st0 → er_PJ (R, C, c, k) → er_GR m1 (R, C, c, k) → er_kp er_GF m m1 → wp_G_read_15 K (c : Int) (i : Int) m1 Q := by
    intro d
    induction d with
    | zero =>
      intro i R C c k m1 hi hrd hj hg hkp
      obtain ⟨t1, t2, t3⟩ := h
      have e1 : m1 40 1 = (n : Int) := by rw [hkp 40 1 (by unfold er_GF; omega)]; exact t2
      have g2 := hg.1
      obtain ⟨j1, j2, j3, j4, j5, j6, j7⟩ := hj
      simp only at j1 j2 j3 j4 j5 j6 j7 g2
      refine vc_G_read_15 ⟨⟨by omega, by omega⟩, ⟨by omega, by omega⟩, fun _ => ⟨⟨by omega, by omega⟩, fun hz => ?_, fun hnz => ⟨⟨by omega, by omega⟩, fun hle => ?_, fun hgt => ?_⟩⟩, fun hlt => by omega⟩
      · refine hQ m1 _ (R, C, c, k) (by rw [← hrd]; simp only [er_rd]; rw [if_neg (fun z => z.1 (by omega)), e1, show n = i by omega]) ⟨j1, j2, j3, j4, j5, j6, j7⟩ hg hkp
      · refine hQ m1 _ (R, C, c, k) (by rw [← hrd]; simp only [er_rd]; rw [if_pos ⟨by omega, by omega⟩]) ⟨j1, j2, j3, j4, j5, j6, j7⟩ hg hkp
      · refine hQ m1 _ (R, C, c, k) (by rw [← hrd]; simp only [er_rd]; rw [if_neg (fun z => by omega), e1, show n = i by omega]) ⟨j1, j2, j3, j4, j5, j6, j7⟩ hg hkp
    | succ d ih =>
      intro i R C c k m1 hi hrd hj hg hkp
      have hj' := hj
      have hg' := hg
      obtain ⟨t1, t2, t3⟩ := h
      have e1 : m1 40 1 = (n : Int) := by rw [hkp 40 1 (by unfold er_GF; omega)]; exact t2
      have e41 : m1 41 (i : Int) = f i := by rw [hkp 41 i (by unfold er_GF; omega)]; exact (t3 i (by omega) (by omega)).1
      have hc := (t3 i (by omega) (by omega)).2
      have hpk := er_pk_or (f i)
      obtain ⟨g2, g3, g4⟩ := hg
      obtain ⟨j1, j2, j3, j4, j5, j6, j7⟩ := hj
      simp only at j1 j2 j3 j4 j5 j6 j7 g2 g3
      simp only [er_rd] at hrd
      -- an error
      have bad : er_stp (f i) (R, C, c, k) = none → Q (i : Int) m1 := by
        intro hs
        rw [hs] at hrd
        exact hQ m1 _ (R, C, c, k) hrd.symm hj' hg' hkp
      refine vc_G_read_15 ⟨⟨by omega, by omega⟩, ⟨by omega, by omega⟩, fun hle => by omega, fun _ => ⟨by omega, by omega, ?_⟩⟩
      rw [e41]
      refine ⟨⟨by omega, by omega⟩, fun hns => ?_, fun hs => ?_⟩
      · -- no: not allowed; yes: allowed
        have no : ∀ m12, m12 = m1 → er_stp (f i) (R, C, c, k) = none → (er_in (0 : Int)) ∧ (((0 : Int) ≠ 0 → ((f i ≠ 59 → er_SI K mi_R_placeOf [.inl (m12 40 2), .inl (c : Int)] m12 (fun v18 m17 => er_SI K mi_G_kindOf [.inl (f i)] m17 (fun v20 m19 => (0 ≤ v18) ∧ (v18 < 36) ∧ (∀ m23 : er_M, m23 = er_st m19 42 v18 v20 → wp_G_read_15 K ((c : Int) + 1) ((i : Int) + 1) m23 Q)))) ∧ (f i = 59 → ∀ m24 : er_M, m24 = er_st m12 40 3 (c : Int) → ∀ m25 : er_M, m25 = er_st m24 40 2 ((m24 40 2) + 1) → wp_G_read_15 K 0 ((i : Int) + 1) m25 Q))) ∧ ((0 : Int) = 0 → Q (i : Int) m12)) := by
          intro m12 e12 hst
          exact ⟨⟨by omega, by omega⟩, fun z => absurd rfl z, fun _ => by rw [e12]; exact bad hst⟩
        refine vc_G_isAllowed ⟨⟨by omega, by omega⟩, fun h6 => ⟨⟨by omega, by omega⟩, fun hn59 => ?_, fun h59 => ⟨fun hR => ⟨⟨by omega, by omega⟩, ⟨by omega, by omega⟩, fun hne => ?_, fun heq => ?_⟩, fun hR => ⟨⟨by omega, by omega⟩, fun hle => ?_, fun hgt => ?_⟩⟩⟩, fun h6 => ?_⟩
        · refine sp_G_kindOf hc ⟨by rcases hpk with z | z | z | z <;> exact ⟨by omega, by omega⟩, fun hm1 => ?_, fun hm1 => ⟨⟨by omega, by omega⟩, ⟨by omega, by omega⟩, fun hle => ?_, fun hlt => ?_⟩⟩
          · refine no m1 rfl ?_
            unfold er_stp
            rw [if_neg hns, if_neg (by simp only; omega), if_neg hn59, if_neg (fun z => z.1 hm1)]
          · refine no m1 rfl ?_
            unfold er_stp
            rw [if_neg hns, if_neg (by simp only; omega), if_neg hn59, if_neg (fun z => by simp only at z; omega)]
          · have hst : er_stp (f i) (R, C, c, k) = some (R, C, c + 1, er_u k (6 * (R : Int) + c) (er_pk (f i))) := by
              unfold er_stp
              rw [if_neg hns, if_neg (by simp only; omega), if_neg hn59, if_pos ⟨hm1, by simp only; omega⟩]
            rw [hst] at hrd
            refine ⟨by decide, fun _ => ⟨fun _ => vc_R_placeOf (sp_G_kindOf hc ?_), fun z => absurd z hn59⟩, fun z => absurd z (by decide)⟩
            rw [g2]
            refine ⟨by omega, by omega, fun m23 e23 => ?_⟩
            refine ih (i + 1) _ _ _ _ m23 (by omega) hrd (er_PJ_pin hj' (by simp only; omega) (by simp only; omega) (by rcases hpk with z | z | z | z <;> omega)) ⟨by rw [e23, er_st_c (by decide)]; exact g2, by rw [e23, er_st_c (by decide)]; exact g3, fun j j0 j1' hw => ?_⟩ (hkp.tr (by rw [e23]; exact er_kp.st (Or.inl rfl)))
            simp only
            rw [e23, show (R : Int) * 6 + c = 6 * (R : Int) + c by omega]
            by_cases hjj : j = 6 * (R : Int) + c
            · rw [hjj, er_st_s, er_u_s]
            · rw [er_st_k hjj, er_u_n hjj]
              refine g4 j j0 j1' ?_
              unfold er_wr at hw ⊢
              simp only at hw ⊢
              omega
        · refine no m1 rfl ?_
          unfold er_stp
          rw [if_neg hns, if_neg (by simp only; omega), if_pos h59, if_neg (by simp only; omega)]
        · have hcond : (R = 0 ∧ 0 < c) ∨ (R ≠ 0 ∧ c = C) := Or.inr ⟨by omega, by omega⟩
          have hst : er_stp (f i) (R, C, c, k) = some (R + 1, c, 0, k) := by
            unfold er_stp
            rw [if_neg hns, if_neg (by simp only; omega), if_pos h59, if_pos hcond]
          rw [hst] at hrd
          refine ⟨by decide, fun _ => ⟨fun z => absurd h59 z, fun _ m24 e24 m25 e25 => ?_⟩, fun z => absurd z (by decide)⟩
          refine ih (i + 1) _ _ _ _ m25 (by omega) hrd (er_PJ_row hj' (by simp only; omega) hcond) ⟨by rw [e25, er_st_s, e24, er_st_k (by decide), g2]; simp, by rw [e25, er_st_k (by decide), e24, er_st_s], fun j j0 j1' hw => ?_⟩ (hkp.tr (by rw [e25, e24]; exact (er_kp.st (Or.inr ⟨rfl, Or.inr rfl⟩)).tr (er_kp.st (Or.inr ⟨rfl, Or.inl rfl⟩))))
          rw [e25, er_st_c (by decide), e24, er_st_c (by decide)]
          refine g4 j j0 j1' ?_
          unfold er_wr at hw ⊢
          simp only at hw ⊢
          omega
        · refine no m1 rfl ?_
          unfold er_stp
          rw [if_neg hns, if_neg (by simp only; omega), if_pos h59, if_neg (by simp only; omega)]
        · have hcond : (R = 0 ∧ 0 < c) ∨ (R ≠ 0 ∧ c = C) := Or.inl ⟨by omega, by omega⟩
          have hst : er_stp (f i) (R, C, c, k) = some (R + 1, c, 0, k) := by
            unfold er_stp
            rw [if_neg hns, if_neg (by simp only; omega), if_pos h59, if_pos hcond]
          rw [hst] at hrd
          refine ⟨by decide, fun _ => ⟨fun z => absurd h59 z, fun _ m24 e24 m25 e25 => ?_⟩, fun z => absurd z (by decide)⟩
          refine ih (i + 1) _ _ _ _ m25 (by omega) hrd (er_PJ_row hj' (by simp only; omega) hcond) ⟨by rw [e25, er_st_s, e24, er_st_k (by decide), g2]; simp, by rw [e25, er_st_k (by decide), e24, er_st_s], fun j j0 j1' hw => ?_⟩ (hkp.tr (by rw [e25, e24]; exact (er_kp.st (Or.inr ⟨rfl, Or.inr rfl⟩)).tr (er_kp.st (Or.inr ⟨rfl, Or.inl rfl⟩))))
          rw [e25, er_st_c (by decide), e24, er_st_c (by decide)]
          refine g4 j j0 j1' ?_
          unfold er_wr at hw ⊢
          simp only at hw ⊢
          omega
        · refine no m1 rfl ?_
          unfold er_stp
          rw [if_neg hns, if_pos (by simp only; omega)]
      · have hst : er_stp (f i) (R, C, c, k) = some (R, C, c, k) := by
          unfold er_stp
          rw [if_pos hs]
        rw [hst] at hrd
        exact ih (i + 1) R C c k m1 (by omega) hrd hj' hg' hkp
  refine vc_G_read (fun m1 e1 m2 e2 => ?_)
  exact loop n 0 0 6 0 (fun _ => 0) m2 (by omega) rfl er_PJ_0 ⟨by rw [e2, er_st_k (by decide), e1, er_st_s]; rfl, by rw [e2, er_st_s]; rfl, fun j j0 j1 hw => by
    unfold er_wr at hw
    simp only at hw
    omega⟩ (by rw [e2, e1]; exact (er_kp.st (Or.inr ⟨rfl, Or.inl rfl⟩)).tr (er_kp.st (Or.inr ⟨rfl, Or.inr rfl⟩)))
end ERX
