/-! the reference's text -/
section ERMX
variable {K : er_K} {m : er_M}
theorem sp_M_readGrid {n : Nat} {f : Int → Int} {Q : Int → er_M → Prop} (h : er_TM m n f) (hQ : ∀ m' r st, er_rd f n 0 er_st0 = (r, st) → er_PJ st → er_GM m' st → er_kp er_HM m m' → Q (if r = -1 then -9 else r) m') : er_SI K mi_M_readGrid [.inr 83] m Q := by
  have loop : ∀ (d i R C c : Nat) (k : Int → Int) (m1 : er_M), i + d = n → er_rd f d i (R, C, c, k) = er_rd f n 0 er_st0 → er_PJ (R, C, c, k) → er_GM m1 (R, C, c, k) → er_kp er_HM m m1 → wp_M_readGrid_35 K (c : Int) (i : Int) m1 Q := by
    intro d
    induction d with
    | zero =>
      intro i R C c k m1 hi hrd hj hg hkp
      obtain ⟨t1, t2, t3⟩ := h
      have e1 : m1 83 4 = (n : Int) := by rw [hkp 83 4 (by unfold er_HM; omega)]; exact t2
      have g2 := hg.1
      obtain ⟨j1, j2, j3, j4, j5, j6, j7⟩ := hj
      simp only at j1 j2 j3 j4 j5 j6 j7 g2
      have out : ∀ r : Int, r = (if R ≠ 0 ∧ c = 0 then -1 else (i : Int)) → Q (if r = -1 then -9 else r) m1 := fun r hr => hQ m1 r (R, C, c, k) (by rw [← hrd, hr]; rfl) ⟨j1, j2, j3, j4, j5, j6, j7⟩ hg hkp
      refine vc_M_readGrid_35 ⟨⟨by omega, by omega⟩, ⟨by omega, by omega⟩, fun _ => ⟨⟨by omega, by omega⟩, fun hpos => ?_, fun hle => ⟨⟨by omega, by omega⟩, fun hnz => ?_, fun hz => ?_⟩⟩, fun hlt => by omega⟩
      · have := out i (by rw [if_neg (by omega)])
        rw [if_neg (by omega)] at this
        rw [e1, show n = i by omega]
        exact this
      · have := out (-1) (by rw [if_pos ⟨by omega, by omega⟩])
        exact this
      · have := out i (by rw [if_neg (by omega)])
        rw [if_neg (by omega)] at this
        rw [e1, show n = i by omega]
        exact this
    | succ d ih =>
      intro i R C c k m1 hi hrd hj hg hkp
      have hj' := hj
      have hg' := hg
      obtain ⟨t1, t2, t3⟩ := h
      have e1 : m1 83 4 = (n : Int) := by rw [hkp 83 4 (by unfold er_HM; omega)]; exact t2
      have e41 : m1 86 (i : Int) = (f i + 128) % 256 - 128 := by rw [hkp 86 i (by unfold er_HM; omega)]; exact (t3 i (by omega) (by omega)).1
      have hc := (t3 i (by omega) (by omega)).2
      have hpk := er_pk_or (f i)
      obtain ⟨g2, g3, g3', g4⟩ := hg
      obtain ⟨j1, j2, j3, j4, j5, j6, j7⟩ := hj
      simp only at j1 j2 j3 j4 j5 j6 j7 g2 g3 g4
      simp only [er_rd] at hrd
      -- an error
      have bad : er_stp (f i) (R, C, c, k) = none → wp_M_readGrid_155 K (i : Int) m1 Q := by
        intro hs
        rw [hs] at hrd
        have := hQ m1 _ (R, C, c, k) hrd.symm hj' hg' hkp
        rw [if_neg (by omega)] at this
        exact vc_M_readGrid_155 this
      have badrow : f i = 59 → ¬ ((R = 0 ∧ 0 < c) ∨ (R ≠ 0 ∧ c = C)) → er_stp (f i) (R, C, c, k) = none := fun h59 hno => by
        unfold er_stp
        rw [if_neg (by omega)]
        by_cases h6 : 6 ≤ R
        · rw [if_pos h6]
        · rw [if_neg h6, if_pos h59, if_neg hno]
      have badpin : f i ≠ 59 → f i ≠ 32 → (R = 6 ∨ c = C ∨ er_pk (f i) = -1) → er_stp (f i) (R, C, c, k) = none := fun h59 h32 hno => by
        unfold er_stp
        rw [if_neg h32]
        by_cases h6 : 6 ≤ R
        · rw [if_pos h6]
        · rw [if_neg h6, if_neg h59, if_neg (fun z => by simp only at z; omega)]
      -- a pin
      have pin : ∀ (c' most : Int), (c' = 46 ∨ c' = 112 ∨ c' = 115) → f i = c' → most = (if R = 0 then 6 else (C : Int)) → wp_M_readGrid_86 K (c : Int) (i : Int) c' most m1 Q := by
        intro c' most hcc hfc hmost
        have hmC : most = (C : Int) := by rw [hmost]; split <;> omega
        refine vc_M_readGrid_86 ⟨⟨by omega, by omega⟩, fun _ => ?_, fun z => by omega⟩
        refine vc_M_readGrid_118 ⟨by decide, fun z => absurd z (by decide), fun _ => ⟨⟨by omega, by omega⟩, fun h6 => bad (badpin (by omega) (by omega) (Or.inl (by omega))), fun h6 => ⟨⟨by omega, by omega⟩, ⟨by omega, by omega⟩, fun he => bad (badpin (by omega) (by omega) (Or.inr (Or.inl (by omega)))), fun hne => ?_⟩⟩⟩
        have hst : er_stp (f i) (R, C, c, k) = some (R, C, c + 1, er_u k (6 * (R : Int) + c) (er_pk (f i))) := by
          unfold er_stp
          rw [if_neg (by omega), if_neg (by simp only; omega), if_neg (by omega), if_pos ⟨by omega, by simp only; omega⟩]
        rw [hst] at hrd
        have go : ∀ m23, m23 = er_st m1 87 (6 * (R : Int) + c) (er_pk (f i)) → wp_M_readGrid_35 K ((c : Int) + 1) ((i : Int) + 1) m23 Q := by
          intro m23 e23
          refine ih (i + 1) _ _ _ _ m23 (by omega) hrd (er_PJ_pin hj' (by simp only; omega) (by simp only; omega) (by rcases hpk with z | z | z | z <;> omega)) ⟨by rw [e23, er_st_c (by decide)]; exact g2, fun hz => by rw [e23, er_st_c (by decide)]; exact g3 hz, by rw [e23, er_st_c (by decide)]; exact g3', fun j j0 j1' => ?_⟩ (hkp.tr (by rw [e23]; exact er_kp.st (Or.inl rfl)))
          simp only
          rw [e23]
          by_cases hjj : j = 6 * (R : Int) + c
          · rw [hjj, er_st_s, er_u_s]
          · rw [er_st_k hjj, er_u_n hjj]
            exact g4 j j0 j1'
        refine vc_M_readGrid_138 ⟨by decide, fun _ => ?_, fun z => absurd z (by decide)⟩
        refine vc_M_readGrid_157 ⟨by decide, fun z => absurd z (by decide), fun _ => ⟨⟨by omega, by omega⟩, fun hn115 => ⟨fun hn112 => ?_, fun h112 => ?_⟩, fun h115 => ?_⟩⟩
        · rw [g2]
          exact ⟨by omega, by omega, fun m12 e12 => go m12 (by rw [e12, show er_pk (f i) = 0 by omega])⟩
        · rw [g2]
          exact ⟨by omega, by omega, fun m12 e12 => go m12 (by rw [e12, show er_pk (f i) = 2 by omega])⟩
        · rw [g2]
          exact ⟨by omega, by omega, fun m12 e12 => go m12 (by rw [e12, show er_pk (f i) = 1 by omega])⟩
      -- no pin
      have other : ∀ (c' most : Int), c' ≠ 46 → c' ≠ 112 → c' ≠ 115 → -128 ≤ c' → c' ≤ 127 → c' = (f i + 128) % 256 - 128 → (c' = 59 → (R = 0 ∧ 0 < c) ∨ (R ≠ 0 ∧ c = C)) → wp_M_readGrid_118 K (c : Int) (i : Int) c' most 0 m1 Q := by
        intro c' most n1 n2 n3 b1 b2 hcc hrow
        refine vc_M_readGrid_118 ⟨by decide, fun _ => ?_, fun z => absurd rfl z⟩
        refine vc_M_readGrid_138 ⟨by decide, fun z => absurd rfl z, fun _ => ⟨⟨by omega, by omega⟩, fun h59 => ?_, fun h59 => ⟨fun h32 => ?_, fun h32 => bad (badpin (by omega) (by omega) (Or.inr (Or.inr (by omega))))⟩⟩⟩
        · have hcond := hrow h59
          by_cases h6 : R = 6
          · exact absurd hcond (by omega)
          · have hst : er_stp (f i) (R, C, c, k) = some (R + 1, c, 0, k) := by
              unfold er_stp
              rw [if_neg (by omega), if_neg (by simp only; omega), if_pos (by omega), if_pos hcond]
            rw [hst] at hrd
            refine vc_M_readGrid_157 ⟨by decide, fun _ => ⟨⟨by omega, by omega⟩, fun z => absurd h59 z, fun _ m5 e5 m6 e6 => ?_⟩, fun z => absurd rfl z⟩
            refine ih (i + 1) _ _ _ _ m6 (by omega) hrd (er_PJ_row hj' (by simp only; omega) hcond) ⟨by rw [e6, er_st_s, e5, er_st_k (by decide), g2]; simp, fun _ => by rw [e6, er_st_k (by decide), e5, er_st_s], by rw [e6, er_st_k (by decide), e5, er_st_s]; exact ⟨by omega, by omega⟩, fun j j0 j1' => ?_⟩ (hkp.tr (by rw [e6, e5]; exact (er_kp.st (Or.inr ⟨rfl, Or.inr rfl⟩)).tr (er_kp.st (Or.inr ⟨rfl, Or.inl rfl⟩))))
            rw [e6, er_st_c (by decide), e5, er_st_c (by decide)]
            exact g4 j j0 j1'
        · have hst : er_stp (f i) (R, C, c, k) = some (R, C, c, k) := by
            unfold er_stp
            rw [if_pos (by omega)]
          rw [hst] at hrd
          refine vc_M_readGrid_157 ⟨by decide, fun _ => ⟨⟨by omega, by omega⟩, fun _ => ih (i + 1) R C c k m1 (by omega) hrd hj' hg' hkp, fun z => by omega⟩, fun z => absurd rfl z⟩
      have hm1b : -128 ≤ (f i + 128) % 256 - 128 ∧ (f i + 128) % 256 - 128 ≤ 127 := by omega
      refine vc_M_readGrid_35 ⟨⟨by omega, by omega⟩, ⟨by omega, by omega⟩, fun hle => by omega, fun _ => ⟨by omega, by omega, ⟨by omega, by omega⟩, ?_, ?_⟩⟩
      · rw [e41, g2]
        intro hR
        have hR0 : R ≠ 0 := by omega
        rw [g3 hR0]
        refine ⟨⟨by omega, by omega⟩, fun z => pin _ _ (by omega) (by omega) (by rw [if_neg hR0]), fun z1 => ⟨fun z => pin _ _ (by omega) (by omega) (by rw [if_neg hR0]), fun z2 => ⟨fun z3 => ⟨fun z4 => other _ _ z3 z2 z1 hm1b.1 hm1b.2 rfl (fun w => absurd w z4), fun z4 => ⟨⟨by omega, by omega⟩, fun w => bad (badrow (by omega) (by omega)), fun w => ⟨fun w2 => by omega, fun w2 => ⟨⟨by omega, by omega⟩, fun w3 => bad (badrow (by omega) (by omega)), fun w3 => other _ _ z3 z2 z1 hm1b.1 hm1b.2 rfl (fun _ => Or.inr ⟨hR0, by omega⟩)⟩⟩⟩⟩, fun z => pin _ _ (by omega) (by omega) (by rw [if_neg hR0])⟩⟩⟩
      · rw [e41, g2]
        intro hR
        have hR0 : R = 0 := by omega
        refine ⟨⟨by omega, by omega⟩, fun z => pin _ _ (by omega) (by omega) (by rw [if_pos hR0]), fun z1 => ⟨fun z => pin _ _ (by omega) (by omega) (by rw [if_pos hR0]), fun z2 => ⟨fun z3 => ⟨fun z4 => other _ _ z3 z2 z1 hm1b.1 hm1b.2 rfl (fun w => absurd w z4), fun z4 => ⟨⟨by omega, by omega⟩, fun w => bad (badrow (by omega) (by omega)), fun w => ⟨fun w2 => other _ _ z3 z2 z1 hm1b.1 hm1b.2 rfl (fun _ => Or.inl ⟨hR0, by omega⟩), fun w2 => by omega⟩⟩⟩, fun z => pin _ _ (by omega) (by omega) (by rw [if_pos hR0])⟩⟩⟩
  have wipe : ∀ (d x : Nat) (m1 : er_M), x + d = 36 → (∀ j : Int, 0 ≤ j → j < x → m1 87 j = 0) → er_kp er_HM m m1 → wp_M_readGrid_2 K (x : Int) m1 Q := by
    intro d
    induction d with
    | zero =>
      intro x m1 hx h0 hkp
      refine vc_M_readGrid_2 ⟨⟨by omega, by omega⟩, fun _ m3 e3 m4 e4 => ?_, fun hlt => by omega⟩
      exact loop n 0 0 6 0 (fun _ => 0) m4 (by omega) rfl er_PJ_0 ⟨by rw [e4, er_st_k (by decide), e3, er_st_s]; rfl, fun z => absurd rfl z, by rw [e4, er_st_s]; decide, fun j j0 j1 => by rw [e4, er_st_c (by decide), e3, er_st_c (by decide)]; exact h0 j j0 (by omega)⟩ (hkp.tr (by rw [e4, e3]; exact (er_kp.st (Or.inr ⟨rfl, Or.inl rfl⟩)).tr (er_kp.st (Or.inr ⟨rfl, Or.inr rfl⟩))))
    | succ d ih =>
      intro x m1 hx h0 hkp
      refine vc_M_readGrid_2 ⟨⟨by omega, by omega⟩, fun hle => by omega, fun _ => ⟨by omega, by omega, fun m7 e7 => ?_⟩⟩
      refine ih (x + 1) m7 (by omega) (fun j j0 j1 => ?_) (hkp.tr (by rw [e7]; exact er_kp.st (Or.inl rfl)))
      rw [e7]
      by_cases hj : j = x
      · rw [hj, er_st_s]
      · rw [er_st_k hj]; exact h0 j j0 (by omega)
  exact vc_M_readGrid (wipe 36 0 m (by decide) (fun j j0 j1 => by omega) er_kp.rf)
end ERMX
