/-! edits of boards, without a machine -/
def er_sep (p : Int → Int) (x : Int) : Int → Int := if p x = -1 then p else er_u (er_u p (p x) (-1)) x (-1)
theorem er_sep_eq (p : Int → Int) (x j : Int) : er_sep p x j = if p x = -1 then p j else if j = x then -1 else if j = p x then -1 else p j := by
  unfold er_sep
  by_cases h : p x = -1
  · rw [if_pos h, if_pos h]
  · rw [if_neg h, if_neg h]
    rfl
/-- a place on the board -/
def er_obd (b : er_Bo) (r c : Int) : Prop := 0 ≤ r ∧ r < er_bR b ∧ 0 ≤ c ∧ c < er_bC b
theorem er_obd_pl {b : er_Bo} {r c : Int} (hv : er_BV b) (h : er_obd b r c) : 0 ≤ 6 * r + c ∧ 6 * r + c < 36 ∧ (6 * r + c) / 6 = r ∧ (6 * r + c) % 6 = c := by
  obtain ⟨h1, h2, h3, h4⟩ := h
  have := hv.2.1
  have := hv.2.2.2.1
  omega
section ERBV
variable {b : er_Bo}
theorem er_BV_part (hv : er_BV b) {p' : Int → Int} {k' s' : Int → Int} {h' t' : Int} (hh : 0 ≤ h' ∧ h' ≤ 5) (ht : 0 ≤ t' ∧ t' ≤ 9) (hk : ∀ j : Int, 0 ≤ j → j < 36 → 0 ≤ k' j ∧ k' j ≤ 2) (hk2 : ∀ j : Int, 0 ≤ j → j < 36 → ¬ (j / 6 < er_bR b ∧ j % 6 < er_bC b) → k' j = 0)
    (hp : ∀ j : Int, 0 ≤ j → j < 36 → p' j = -1 ∨ (0 ≤ p' j ∧ p' j < 36 ∧ p' (p' j) = j ∧ p' j ≠ j ∧ k' j = 1)) (hs : ∀ j : Int, 0 ≤ j → j < 36 → s' j = 0 ∨ (s' j = 1 ∧ k' j = 1)) : er_BV (er_bR b, er_bC b, h', t', k', p', s') :=
  ⟨hv.1, hv.2.1, hv.2.2.1, hv.2.2.2.1, hh.1, hh.2, ht.1, ht.2, hk, hk2, hp, hs⟩
/-- partners after one pair is gone -/
theorem er_sep_ok (hv : er_BV b) {x : Int} (x0 : 0 ≤ x) (x1 : x < 36) (j : Int) (j0 : 0 ≤ j) (j1 : j < 36) : er_sep (er_bp b) x j = -1 ∨ (0 ≤ er_sep (er_bp b) x j ∧ er_sep (er_bp b) x j < 36 ∧ er_sep (er_bp b) x (er_sep (er_bp b) x j) = j ∧ er_sep (er_bp b) x j ≠ j ∧ er_bk b j = 1 ∧ j ≠ x) := by
  have hP := hv.2.2.2.2.2.2.2.2.2.2.1
  have hj := hP j j0 j1
  rw [er_sep_eq (er_bp b) x j]
  by_cases hx : er_bp b x = -1
  · rw [if_pos hx]
    rcases hj with z | ⟨z1, z2, z3, z4, z5⟩
    · exact Or.inl z
    · refine Or.inr ⟨z1, z2, by rw [er_sep_eq, if_pos hx]; exact z3, z4, z5, fun e => ?_⟩
      rw [e, hx] at z1
      omega
  · rw [if_neg hx]
    by_cases hjx : j = x
    · rw [if_pos hjx]; exact Or.inl rfl
    · rw [if_neg hjx]
      by_cases hjp : j = er_bp b x
      · rw [if_pos hjp]; exact Or.inl rfl
      · rw [if_neg hjp]
        rcases hj with z | ⟨z1, z2, z3, z4, z5⟩
        · exact Or.inl z
        · refine Or.inr ⟨z1, z2, ?_, z4, z5, hjx⟩
          rw [er_sep_eq, if_neg hx, if_neg (fun e => hjp (by rw [← e]; exact z3.symm)), if_neg (fun e => ?_)]
          · exact z3
          · rw [e] at z3
            rcases hP x x0 x1 with y | y
            · exact hx y
            · omega
def er_b_kind (b : er_Bo) (x v : Int) : er_Bo := (er_bR b, er_bC b, er_bh b, er_bt b, er_u (er_bk b) x v, er_sep (er_bp b) x, er_u (er_bs b) x 0)
theorem er_BV_kind (hv : er_BV b) {x v : Int} (x0 : 0 ≤ x) (x1 : x < 36) (hon : x / 6 < er_bR b ∧ x % 6 < er_bC b) (hv2 : 0 ≤ v ∧ v ≤ 2) : er_BV (er_b_kind b x v) := by
  refine er_BV_part hv ⟨hv.2.2.2.2.1, hv.2.2.2.2.2.1⟩ ⟨hv.2.2.2.2.2.2.1, hv.2.2.2.2.2.2.2.1⟩ (fun j j0 j1 => ?_) (fun j j0 j1 hn => ?_) (fun j j0 j1 => ?_) (fun j j0 j1 => ?_)
  · by_cases hj : j = x
    · rw [hj, er_u_s]; exact hv2
    · rw [er_u_n hj]; exact hv.2.2.2.2.2.2.2.2.1 j j0 j1
  · have hj : j ≠ x := fun e => hn (by rw [e]; exact hon)
    rw [er_u_n hj]; exact hv.2.2.2.2.2.2.2.2.2.1 j j0 j1 hn
  · rcases er_sep_ok hv x0 x1 j j0 j1 with z | ⟨z1, z2, z3, z4, z5, z6⟩
    · exact Or.inl z
    · exact Or.inr ⟨z1, z2, z3, z4, by rw [er_u_n z6]; exact z5⟩
  · by_cases hj : j = x
    · rw [hj, er_u_s]; exact Or.inl rfl
    · rw [er_u_n hj, er_u_n hj]; exact hv.2.2.2.2.2.2.2.2.2.2.2 j j0 j1
def er_b_chan (b : er_Bo) (v : Int) : er_Bo := (er_bR b, er_bC b, v, er_bt b, er_bk b, er_bp b, er_bs b)
theorem er_BV_chan (hv : er_BV b) {v : Int} (hv2 : 0 ≤ v ∧ v ≤ 5) : er_BV (er_b_chan b v) :=
  er_BV_part hv hv2 ⟨hv.2.2.2.2.2.2.1, hv.2.2.2.2.2.2.2.1⟩ hv.2.2.2.2.2.2.2.2.1 hv.2.2.2.2.2.2.2.2.2.1 hv.2.2.2.2.2.2.2.2.2.2.1 hv.2.2.2.2.2.2.2.2.2.2.2
def er_b_tile (b : er_Bo) (v : Int) : er_Bo := (er_bR b, er_bC b, er_bh b, v, er_bk b, er_bp b, er_bs b)
theorem er_BV_tile (hv : er_BV b) {v : Int} (hv2 : 0 ≤ v ∧ v ≤ 9) : er_BV (er_b_tile b v) :=
  er_BV_part hv ⟨hv.2.2.2.2.1, hv.2.2.2.2.2.1⟩ hv2 hv.2.2.2.2.2.2.2.2.1 hv.2.2.2.2.2.2.2.2.2.1 hv.2.2.2.2.2.2.2.2.2.2.1 hv.2.2.2.2.2.2.2.2.2.2.2
def er_b_pair (b : er_Bo) (x y : Int) : er_Bo := (er_bR b, er_bC b, er_bh b, er_bt b, er_bk b, er_u (er_u (er_bp b) x y) y x, er_bs b)
theorem er_BV_pair (hv : er_BV b) {x y : Int} (x0 : 0 ≤ x) (x1 : x < 36) (y0 : 0 ≤ y) (y1 : y < 36) (hxy : x ≠ y) (hx : er_bp b x = -1) (hy : er_bp b y = -1) (kx : er_bk b x = 1) (ky : er_bk b y = 1) : er_BV (er_b_pair b x y) := by
  refine er_BV_part hv ⟨hv.2.2.2.2.1, hv.2.2.2.2.2.1⟩ ⟨hv.2.2.2.2.2.2.1, hv.2.2.2.2.2.2.2.1⟩ hv.2.2.2.2.2.2.2.2.1 hv.2.2.2.2.2.2.2.2.2.1 (fun j j0 j1 => ?_) hv.2.2.2.2.2.2.2.2.2.2.2
  have hP := hv.2.2.2.2.2.2.2.2.2.2.1
  by_cases hjy : j = y
  · rw [hjy, er_u_s]
    exact Or.inr ⟨x0, x1, by rw [er_u_n hxy, er_u_s], hxy, ky⟩
  · by_cases hjx : j = x
    · rw [hjx, er_u_n hxy, er_u_s, er_u_s]
      exact Or.inr ⟨y0, y1, rfl, fun e => hxy e.symm, kx⟩
    · rw [er_u_n hjy, er_u_n hjx]
      rcases hP j j0 j1 with z | ⟨z1, z2, z3, z4, z5⟩
      · exact Or.inl z
      · refine Or.inr ⟨z1, z2, ?_, z4, z5⟩
        rw [er_u_n (fun e => ?_), er_u_n (fun e => ?_)]
        · exact z3
        · rw [e, hx] at z3; omega
        · rw [e, hy] at z3; omega
def er_b_free (b : er_Bo) (x : Int) : er_Bo := (er_bR b, er_bC b, er_bh b, er_bt b, er_bk b, er_sep (er_bp b) x, er_bs b)
theorem er_BV_free (hv : er_BV b) {x : Int} (x0 : 0 ≤ x) (x1 : x < 36) : er_BV (er_b_free b x) := by
  refine er_BV_part hv ⟨hv.2.2.2.2.1, hv.2.2.2.2.2.1⟩ ⟨hv.2.2.2.2.2.2.1, hv.2.2.2.2.2.2.2.1⟩ hv.2.2.2.2.2.2.2.2.1 hv.2.2.2.2.2.2.2.2.2.1 (fun j j0 j1 => ?_) hv.2.2.2.2.2.2.2.2.2.2.2
  rcases er_sep_ok hv x0 x1 j j0 j1 with z | ⟨z1, z2, z3, z4, z5, z6⟩
  · exact Or.inl z
  · exact Or.inr ⟨z1, z2, z3, z4, z5⟩
def er_b_sel (b : er_Bo) (x v : Int) : er_Bo := (er_bR b, er_bC b, er_bh b, er_bt b, er_bk b, er_bp b, er_u (er_bs b) x v)
theorem er_BV_sel (hv : er_BV b) {x v : Int} (h : v = 0 ∨ (v = 1 ∧ er_bk b x = 1)) : er_BV (er_b_sel b x v) := by
  refine er_BV_part hv ⟨hv.2.2.2.2.1, hv.2.2.2.2.2.1⟩ ⟨hv.2.2.2.2.2.2.1, hv.2.2.2.2.2.2.2.1⟩ hv.2.2.2.2.2.2.2.2.1 hv.2.2.2.2.2.2.2.2.2.1 hv.2.2.2.2.2.2.2.2.2.2.1 (fun j j0 j1 => ?_)
  by_cases hj : j = x
  · rw [hj, er_u_s]; exact h
  · rw [er_u_n hj]; exact hv.2.2.2.2.2.2.2.2.2.2.2 j j0 j1
def er_b_wipe (b : er_Bo) : er_Bo := (er_bR b, er_bC b, er_bh b, er_bt b, er_bk b, er_bp b, fun _ => 0)
theorem er_BV_wipe (hv : er_BV b) : er_BV (er_b_wipe b) :=
  er_BV_part hv ⟨hv.2.2.2.2.1, hv.2.2.2.2.2.1⟩ ⟨hv.2.2.2.2.2.2.1, hv.2.2.2.2.2.2.2.1⟩ hv.2.2.2.2.2.2.2.2.1 hv.2.2.2.2.2.2.2.2.2.1 hv.2.2.2.2.2.2.2.2.2.2.1 (fun _ _ _ => Or.inl rfl)
def er_b_grid (b : er_Bo) (st : er_pst) : er_Bo := (st.1, st.2.1, er_bh b, er_bt b, st.2.2.2, fun _ => -1, fun _ => 0)
theorem er_BV_grid (hv : er_BV b) {st : er_pst} (h : er_PJ st) (h0 : st.1 ≠ 0) (hc : st.2.2.1 = 0) : er_BV (er_b_grid b st) := by
  obtain ⟨R, C, c, k⟩ := st
  obtain ⟨h1, h2, h3, h4, h5, h6, h7⟩ := h
  simp only at h0 hc
  refine ⟨by show 1 ≤ R; omega, h1, h4, h3, hv.2.2.2.2.1, hv.2.2.2.2.2.1, hv.2.2.2.2.2.2.1, hv.2.2.2.2.2.2.2.1, fun j j0 j1 => ⟨(h7 j j0 j1).1, (h7 j j0 j1).2.1⟩, fun j j0 j1 hn => (h7 j j0 j1).2.2 (fun hw => hn ?_), fun j _ _ => Or.inl rfl, fun j _ _ => Or.inl rfl⟩
  unfold er_wr at hw
  simp only at hw
  show j / 6 < (R : Int) ∧ j % 6 < (C : Int)
  omega
end ERBV
/-- how many pairs, how many are selected -/
noncomputable def er_npair (b : er_Bo) : Int := er_sum 36 (fun p => er_ic ((p : Int) < er_bp b (p : Int)))
noncomputable def er_nsel (b : er_Bo) : Int := er_sum 36 (fun p => er_bs b (p : Int))
theorem er_sum_single {n k : Nat} {f : Nat → Int} (hk : k < n) (h : ∀ i, i < n → i ≠ k → f i = 0) : er_sum n f = f k := by
  have := er_sum_one (g := fun _ => 0) hk h
  rw [this, er_sum_zero (fun _ _ => rfl)]
  omega
theorem er_npair_2 {b : er_Bo} (hv : er_BV b) : er_sum 36 (fun p => er_ic (0 ≤ er_bp b (p : Int))) = 2 * er_npair b := by
  have hP := hv.2.2.2.2.2.2.2.2.2.2.1
  have e1 : er_npair b = er_sum 36 (fun i => er_sum 36 (fun j => er_ic (er_bp b (i : Int) = (j : Int) ∧ i < j))) := by
    unfold er_npair
    refine er_sum_congr (fun i hi => ?_)
    by_cases hlt : (i : Int) < er_bp b (i : Int)
    · have h := hP i (by omega) (by omega)
      rw [er_ic_t hlt, er_sum_single (k := (er_bp b (i : Int)).toNat) (by omega) (fun j hj hne => er_ic_f (fun z => by omega)), er_ic_t ⟨by omega, by omega⟩]
    · rw [er_ic_f hlt, er_sum_zero (fun j hj => er_ic_f (fun z => by omega))]
  have e2 : er_sum 36 (fun p => er_ic (0 ≤ er_bp b (p : Int) ∧ er_bp b (p : Int) < p)) = er_sum 36 (fun j => er_sum 36 (fun i => er_ic (er_bp b (i : Int) = (j : Int) ∧ i < j))) := by
    refine er_sum_congr (fun j hj => ?_)
    by_cases hlt : 0 ≤ er_bp b (j : Int) ∧ er_bp b (j : Int) < j
    · have h := hP j (by omega) (by omega)
      have h3 : er_bp b (er_bp b (j : Int)) = (j : Int) := by rcases h with z | z; omega; exact z.2.2.1
      rw [er_ic_t hlt, er_sum_single (k := (er_bp b (j : Int)).toNat) (by omega) (fun i hi hne => er_ic_f (fun z => ?_)), er_ic_t ⟨by rw [show (((er_bp b (j : Int)).toNat : Nat) : Int) = er_bp b (j : Int) by omega]; exact h3, by omega⟩]
      have hi3 := hP i (by omega) (by omega)
      rcases hi3 with y | y
      · omega
      · have := y.2.2.1
        rw [z.1] at this
        omega
    · rw [er_ic_f hlt, er_sum_zero (fun i hi => er_ic_f (fun z => ?_))]
      have hi3 := hP i (by omega) (by omega)
      rcases hi3 with y | y
      · omega
      · have := y.2.2.1
        rw [z.1] at this
        exact hlt ⟨by omega, by omega⟩
  have e3 : er_sum 36 (fun p => er_ic (0 ≤ er_bp b (p : Int))) = er_npair b + er_sum 36 (fun p => er_ic (0 ≤ er_bp b (p : Int) ∧ er_bp b (p : Int) < p)) := by
    unfold er_npair
    rw [← er_sum_add]
    refine er_sum_congr (fun i hi => ?_)
    have h := hP i (by omega) (by omega)
    by_cases h0 : 0 ≤ er_bp b (i : Int)
    · by_cases hlt : (i : Int) < er_bp b (i : Int)
      · rw [er_ic_t h0, er_ic_t hlt, er_ic_f (fun z => by omega)]; rfl
      · rw [er_ic_t h0, er_ic_f hlt, er_ic_t ⟨h0, by omega⟩]; rfl
    · rw [er_ic_f h0, er_ic_f (fun z => by omega), er_ic_f (fun z => h0 z.1)]; rfl
  rw [e3, e2, ← er_sum_comm, ← e1]
  omega
theorem er_npair_bd (b : er_Bo) : 0 ≤ er_npair b ∧ er_npair b ≤ 36 := by
  unfold er_npair
  refine ⟨er_sum_nonneg (fun i _ => er_ic_nn _), ?_⟩
  have h1 : er_sum 36 (fun p => er_ic ((p : Int) < er_bp b (p : Int))) ≤ er_sum 36 (fun _ => 1) := er_sum_le (fun i _ => by
    rcases er_ic_01 ((i : Int) < er_bp b (i : Int)) with z | z <;> rw [z] <;> decide)
  exact Int.le_trans h1 (by decide)
