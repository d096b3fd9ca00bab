/-! the class's edits -/
noncomputable def er_aKind (b : er_Bo) (H : List er_Bo) (r c v : Int) : Int × er_Bo × List er_Bo := er_if (¬ er_obd b r c ∨ v < 0 ∨ 2 < v) (-1, b, H) (er_if (er_bk b (6 * r + c) = v) (-2, b, H) (er_bk b (6 * r + c), er_b_kind b (6 * r + c) v, er_push H b))
noncomputable def er_aChan (b : er_Bo) (H : List er_Bo) (v : Int) : Int × er_Bo × List er_Bo := er_if (v < 0 ∨ 5 < v) (-1, b, H) (er_bh b, er_b_chan b v, er_push H b)
noncomputable def er_aTile (b : er_Bo) (H : List er_Bo) (v : Int) : Int × er_Bo × List er_Bo := er_if (v < 0 ∨ 9 < v) (-1, b, H) (er_bt b, er_b_tile b v, er_push H b)
def er_adj (r1 c1 r2 c2 : Int) : Prop := (r1 = r2 ∧ (c1 - c2 = 1 ∨ c1 - c2 = -1)) ∨ (c1 = c2 ∧ (r1 - r2 = 1 ∨ r1 - r2 = -1))
def er_fre (b : er_Bo) (x : Int) : Prop := er_bk b x = 1 ∧ er_bp b x = -1
noncomputable def er_aPair (b : er_Bo) (H : List er_Bo) (r1 c1 r2 c2 : Int) : Int × er_Bo × List er_Bo := er_if (¬ er_obd b r1 c1 ∨ ¬ er_obd b r2 c2 ∨ ¬ er_adj r1 c1 r2 c2) (-1, b, H) (er_if (¬ er_fre b (6 * r1 + c1) ∨ ¬ er_fre b (6 * r2 + c2)) (-2, b, H) (er_npair (er_b_pair b (6 * r1 + c1) (6 * r2 + c2)), er_b_pair b (6 * r1 + c1) (6 * r2 + c2), er_push H b))
noncomputable def er_aFree (b : er_Bo) (H : List er_Bo) (r c : Int) : Int × er_Bo × List er_Bo := er_if (¬ er_obd b r c) (-1, b, H) (er_if (er_bp b (6 * r + c) = -1) (-2, b, H) (er_npair (er_b_free b (6 * r + c)), er_b_free b (6 * r + c), er_push H b))
noncomputable def er_aSel (b : er_Bo) (H : List er_Bo) (r c : Int) : Int × er_Bo × List er_Bo := er_if (¬ er_obd b r c) (-1, b, H) (er_if (er_bk b (6 * r + c) ≠ 1 ∨ er_bs b (6 * r + c) ≠ 0) (-2, b, H) (er_nsel (er_b_sel b (6 * r + c) 1), er_b_sel b (6 * r + c) 1, er_push H b))
noncomputable def er_aDes (b : er_Bo) (H : List er_Bo) (r c : Int) : Int × er_Bo × List er_Bo := er_if (¬ er_obd b r c) (-1, b, H) (er_if (er_bs b (6 * r + c) = 0) (-2, b, H) (er_nsel (er_b_sel b (6 * r + c) 0), er_b_sel b (6 * r + c) 0, er_push H b))
noncomputable def er_aWipe (b : er_Bo) (H : List er_Bo) : Int × er_Bo × List er_Bo := er_if (er_nsel b = 0) (-2, b, H) (er_nsel b, er_b_wipe b, er_push H b)
noncomputable def er_aLoad (b : er_Bo) (H : List er_Bo) (n : Nat) (f : Int → Int) : Int × er_Bo × List er_Bo × Nat := er_if ((er_rd f n 0 er_st0).1 = -1) (er_sig (er_b_grid b (er_rd f n 0 er_st0).2), er_b_grid b (er_rd f n 0 er_st0).2, er_push H b, 0) (-10 - (er_rd f n 0 er_st0).1, b, H, n)
noncomputable def er_aApp (n : Nat) (f : Int → Int) (v : Int) : Int × Nat × (Int → Int) := er_if (v < 0 ∨ 255 < v) (-1, n, f) (er_if (n = 60) (-3, n, f) ((n : Int) + 1, n + 1, er_u f n v))
theorem er_rd_ok (f : Int → Int) : ∀ (d i : Nat) (st : er_pst), ((er_rd f d i st).1 = -1 → (er_rd f d i st).2.1 ≠ 0 ∧ (er_rd f d i st).2.2.2.1 = 0) ∧ ((er_rd f d i st).1 = -1 ∨ (0 ≤ (er_rd f d i st).1 ∧ (er_rd f d i st).1 ≤ (i : Int) + d)) := by
  intro d
  induction d with
  | zero =>
    intro i st
    simp only [er_rd]
    by_cases h : st.1 ≠ 0 ∧ st.2.2.1 = 0
    · rw [if_pos h]; exact ⟨fun _ => h, Or.inl rfl⟩
    · rw [if_neg h]; exact ⟨fun z => by omega, Or.inr ⟨by omega, by omega⟩⟩
  | succ d ih =>
    intro i st
    simp only [er_rd]
    cases hs : er_stp (f i) st with
    | none => exact ⟨fun z => by simp only at z; omega, Or.inr ⟨by simp only; omega, by simp only; omega⟩⟩
    | some st' =>
      have := ih (i + 1) st'
      exact ⟨this.1, this.2.imp id (fun z => ⟨z.1, Int.le_trans z.2 (by omega)⟩)⟩
theorem er_nsel_bd {b : er_Bo} (hv : er_BV b) : 0 ≤ er_nsel b ∧ er_nsel b ≤ 36 := by
  unfold er_nsel
  refine ⟨er_sum_nonneg (fun i hi => ?_), ?_⟩
  · have := hv.2.2.2.2.2.2.2.2.2.2.2 (i : Int) (by omega) (by omega)
    omega
  · have h1 : er_sum 36 (fun p => er_bs b (p : Int)) ≤ er_sum 36 (fun _ => 1) := er_sum_le (fun i hi => by
      have := hv.2.2.2.2.2.2.2.2.2.2.2 (i : Int) (by omega) (by omega)
      omega)
    exact Int.le_trans h1 (by decide)
section ERCE
variable {K : er_K} {m : er_M} {b : er_Bo} {H : List er_Bo} {n : Nat} {f : Int → Int} {c0 : Int}
theorem sp_R_setKind {r c v : Int} {Q : Int → er_M → Prop} (h : er_CI m b H n f c0) (i1 : er_in r) (i2 : er_in c) (i3 : er_in v) (hQ : ∀ m' a, a = er_aKind b H r c v → er_CI m' a.2.1 a.2.2 n f c0 → er_kp er_cf m m' → Q a.1 m') : er_SI K mi_R_setKind [.inr 1, .inl r, .inl c, .inl v] m Q := by
  obtain ⟨⟨hb, hv, hh, ht⟩, -⟩ := id h
  refine vc_R_setKind (sp_B_has hv hb i1 i2 (fun hon => ?_) (fun hoff => ?_))
  · obtain ⟨x0, x1, x2, x3⟩ := er_obd_pl hv hon
    have hx := hb.2.2.2.2 _ x0 x1
    have h3 : m 3 (6 * r + c) = er_bk b (6 * r + c) := hx.1
    have hkd := hv.2.2.2.2.2.2.2.2.1 _ x0 x1
    refine ⟨by decide, fun z => absurd z (by decide), fun _ => ⟨i3, fun hneg => ?_, fun h0 => ⟨fun h2 => vc_R_placeOf ?_, fun h2 => ?_⟩⟩⟩
    · exact hQ m (-1, b, H) (er_if_t (Or.inr (Or.inl hneg))).symm h er_kp.rf
    · rw [show r * 6 + c = 6 * r + c by omega, h3]
      refine ⟨x0, x1, ⟨by omega, by omega⟩, fun hne => ?_, fun he => ?_⟩
      · refine sp_R_beginEdit h (fun m14 b14 h14 t14 c14 k14 s14 => ?_)
        refine sp_B_separate hv b14 x0 x1 (fun m15 p15 k15 m16 e16 m17 e17 => ?_)
        have n17 : er_kp (fun c _ => 3 ≤ c ∧ c ≤ 5) m14 m17 := by rw [e17, e16]; exact ((k15.wk (fun c k z => by omega)).tr (er_kp.st (by omega))).tr (er_kp.st (by omega))
        refine hQ m17 (er_bk b (6 * r + c), er_b_kind b (6 * r + c) v, er_push H b) ?_ (er_CI_new ⟨?_, ?_, ?_, ?_, fun j j0 j1 => ⟨?_, ?_, ?_⟩⟩ (er_BV_kind hv x0 x1 ⟨by rw [x2]; exact hon.2.1, by rw [x3]; exact hon.2.2.2⟩ ⟨h0, h2⟩) (h14.kp n17 (fun q k a z => by omega)) (t14.kp n17 (by omega) (fun k => by omega)) (c14.kp n17 (fun q k a => by omega))) (k14.tr (n17.wk (fun c k z => by unfold er_cf; omega)))
        · unfold er_aKind
          rw [er_if_f (fun z => by rcases z with z | z | z; exact z hon; omega; omega), er_if_f hne]
        · rw [n17 2 0 (by omega)]; exact b14.1
        · rw [n17 2 1 (by omega)]; exact b14.2.1
        · rw [n17 2 2 (by omega)]; exact b14.2.2.1
        · rw [n17 2 3 (by omega)]; exact b14.2.2.2.1
        · show m17 3 j = er_u (er_bk b) (6 * r + c) v j
          rw [e17]
          by_cases hj : j = 6 * r + c
          · rw [hj, er_st_s, er_u_s]
          · rw [er_st_k hj, er_u_n hj, e16, er_st_c (by decide), k15 3 j (by omega)]
            exact (b14.2.2.2.2 j j0 j1).1
        · show m17 4 j = er_sep (er_bp b) (6 * r + c) j
          rw [e17, er_st_c (by decide), e16, er_st_c (by decide)]
          exact p15 j j0 j1
        · show m17 5 j = er_u (er_bs b) (6 * r + c) 0 j
          rw [e17, er_st_c (by decide), e16]
          by_cases hj : j = 6 * r + c
          · rw [hj, er_st_s, er_u_s]
          · rw [er_st_k hj, er_u_n hj, k15 5 j (by omega)]
            exact (b14.2.2.2.2 j j0 j1).2.2
      · refine hQ m (-2, b, H) ?_ h er_kp.rf
        unfold er_aKind
        rw [er_if_f (fun z => by rcases z with z | z | z; exact z hon; omega; omega), er_if_t he]
    · exact hQ m (-1, b, H) (er_if_t (Or.inr (Or.inr h2))).symm h er_kp.rf
  · exact ⟨by decide, fun _ => hQ m (-1, b, H) (er_if_t (Or.inl hoff)).symm h er_kp.rf, fun z => absurd rfl z⟩
theorem sp_R_setChan {v : Int} {Q : Int → er_M → Prop} (h : er_CI m b H n f c0) (i3 : er_in v) (hQ : ∀ m' a, a = er_aChan b H v → er_CI m' a.2.1 a.2.2 n f c0 → er_kp er_cf m m' → Q a.1 m') : er_SI K mi_R_setChannelCapacity [.inr 1, .inl v] m Q := by
  obtain ⟨⟨hb, hv, hh, ht⟩, -⟩ := id h
  refine vc_R_setChannelCapacity ⟨i3, fun hneg => ?_, fun h0 => ⟨fun h2 => ?_, fun h2 => ?_⟩⟩
  · exact hQ m (-1, b, H) (er_if_t (Or.inl hneg)).symm h er_kp.rf
  · refine sp_R_beginEdit h (fun m4 b4 h4 t4 c4 k4 s4 m5 e5 => ?_)
    have n5 : er_kp (fun c k => c = 2 ∧ k = 2) m4 m5 := by rw [e5]; exact er_kp.st ⟨rfl, rfl⟩
    rw [b4.2.2.1]
    refine hQ m5 (er_bh b, er_b_chan b v, er_push H b) (er_if_f (fun z => by omega)).symm (er_CI_new ⟨?_, ?_, ?_, ?_, fun j j0 j1 => ?_⟩ (er_BV_chan hv ⟨h0, h2⟩) (h4.kp n5 (fun q k a z => by omega)) (t4.kp n5 (by omega) (fun k => by omega)) (c4.kp n5 (fun q k a => by omega))) (k4.tr (n5.wk (fun c k z => by unfold er_cf; omega)))
    · rw [n5 2 0 (by omega)]; exact b4.1
    · rw [n5 2 1 (by omega)]; exact b4.2.1
    · rw [e5, er_st_s]; rfl
    · rw [n5 2 3 (by omega)]; exact b4.2.2.2.1
    · rw [n5 _ _ (by omega), n5 _ _ (by omega), n5 _ _ (by omega)]; exact b4.2.2.2.2 j j0 j1
  · exact hQ m (-1, b, H) (er_if_t (Or.inr h2)).symm h er_kp.rf
theorem sp_R_setTile {v : Int} {Q : Int → er_M → Prop} (h : er_CI m b H n f c0) (i3 : er_in v) (hQ : ∀ m' a, a = er_aTile b H v → er_CI m' a.2.1 a.2.2 n f c0 → er_kp er_cf m m' → Q a.1 m') : er_SI K mi_R_setTileCapacity [.inr 1, .inl v] m Q := by
  obtain ⟨⟨hb, hv, hh, ht⟩, -⟩ := id h
  refine vc_R_setTileCapacity ⟨i3, fun hneg => ?_, fun h0 => ⟨fun h2 => ?_, fun h2 => ?_⟩⟩
  · exact hQ m (-1, b, H) (er_if_t (Or.inl hneg)).symm h er_kp.rf
  · refine sp_R_beginEdit h (fun m4 b4 h4 t4 c4 k4 s4 m5 e5 => ?_)
    have n5 : er_kp (fun c k => c = 2 ∧ k = 3) m4 m5 := by rw [e5]; exact er_kp.st ⟨rfl, rfl⟩
    rw [b4.2.2.2.1]
    refine hQ m5 (er_bt b, er_b_tile b v, er_push H b) (er_if_f (fun z => by omega)).symm (er_CI_new ⟨?_, ?_, ?_, ?_, fun j j0 j1 => ?_⟩ (er_BV_tile hv ⟨h0, h2⟩) (h4.kp n5 (fun q k a z => by omega)) (t4.kp n5 (by omega) (fun k => by omega)) (c4.kp n5 (fun q k a => by omega))) (k4.tr (n5.wk (fun c k z => by unfold er_cf; omega)))
    · rw [n5 2 0 (by omega)]; exact b4.1
    · rw [n5 2 1 (by omega)]; exact b4.2.1
    · rw [n5 2 2 (by omega)]; exact b4.2.2.1
    · rw [e5, er_st_s]; rfl
    · rw [n5 _ _ (by omega), n5 _ _ (by omega), n5 _ _ (by omega)]; exact b4.2.2.2.2 j j0 j1
  · exact hQ m (-1, b, H) (er_if_t (Or.inr h2)).symm h er_kp.rf
theorem sp_R_breakPair {r c : Int} {Q : Int → er_M → Prop} (h : er_CI m b H n f c0) (i1 : er_in r) (i2 : er_in c) (hQ : ∀ m' a, a = er_aFree b H r c → er_CI m' a.2.1 a.2.2 n f c0 → er_kp er_cf m m' → Q a.1 m') : er_SI K mi_R_breakPair [.inr 1, .inl r, .inl c] m Q := by
  obtain ⟨⟨hb, hv, hh, ht⟩, -⟩ := id h
  refine vc_R_breakPair (sp_B_has hv hb i1 i2 (fun hon => ?_) (fun hoff => ?_))
  · obtain ⟨x0, x1, x2, x3⟩ := er_obd_pl hv hon
    have hx := hb.2.2.2.2 _ x0 x1
    have h4 : m 4 (6 * r + c) = er_bp b (6 * r + c) := hx.2.1
    have hpd := hv.2.2.2.2.2.2.2.2.2.2.1 _ x0 x1
    refine ⟨by decide, fun _ => vc_R_placeOf ?_, fun z => absurd z (by decide)⟩
    rw [show r * 6 + c = 6 * r + c by omega, h4]
    refine ⟨x0, x1, by rcases hpd with z | z <;> exact ⟨by omega, by omega⟩, fun hne => ?_, fun he => ?_⟩
    · refine sp_R_beginEdit h (fun m14 b14 h14 t14 c14 k14 s14 => ?_)
      refine sp_B_separate hv b14 x0 x1 (fun m15 p15 k15 => ?_)
      have hv' := er_BV_free hv x0 x1
      have hb' : er_CB 2 m15 (er_b_free b (6 * r + c)) := by
        refine ⟨?_, ?_, ?_, ?_, fun j j0 j1 => ⟨?_, ?_, ?_⟩⟩
        · rw [k15 2 0 (by decide)]; exact b14.1
        · rw [k15 2 1 (by decide)]; exact b14.2.1
        · rw [k15 2 2 (by decide)]; exact b14.2.2.1
        · rw [k15 2 3 (by decide)]; exact b14.2.2.2.1
        · rw [k15 _ _ (by omega)]; exact (b14.2.2.2.2 j j0 j1).1
        · exact p15 j j0 j1
        · rw [k15 _ _ (by omega)]; exact (b14.2.2.2.2 j j0 j1).2.2
      refine sp_B_countPairs hv' hb' ?_
      refine hQ m15 (er_npair (er_b_free b (6 * r + c)), er_b_free b (6 * r + c), er_push H b) ?_ (er_CI_new hb' hv' (h14.kp k15 (fun q k a z => by omega)) (t14.kp k15 (by omega) (fun k => by omega)) (c14.kp k15 (fun q k a => by omega))) (k14.tr (k15.wk (fun c k z => by unfold er_cf; omega)))
      unfold er_aFree
      rw [er_if_f (fun z => z hon), er_if_f hne]
    · refine hQ m (-2, b, H) ?_ h er_kp.rf
      unfold er_aFree
      rw [er_if_f (fun z => z hon), er_if_t he]
  · exact ⟨by decide, fun z => absurd rfl z, fun _ => hQ m (-1, b, H) (er_if_t hoff).symm h er_kp.rf⟩
/-- a place is selected or not -/
theorem er_sel_new {m14 m' : er_M} {x v : Int} (b14 : er_CB 2 m14 b) (e : m' = er_st m14 5 x v) : er_CB 2 m' (er_b_sel b x v) := by
  refine ⟨?_, ?_, ?_, ?_, fun j j0 j1 => ⟨?_, ?_, ?_⟩⟩
  · rw [e, er_st_c (by decide)]; exact b14.1
  · rw [e, er_st_c (by decide)]; exact b14.2.1
  · rw [e, er_st_c (by decide)]; exact b14.2.2.1
  · rw [e, er_st_c (by decide)]; exact b14.2.2.2.1
  · rw [e, er_st_c (by decide)]; exact (b14.2.2.2.2 j j0 j1).1
  · rw [e, er_st_c (by decide)]; exact (b14.2.2.2.2 j j0 j1).2.1
  · show m' 5 j = er_u (er_bs b) x v j
    rw [e]
    by_cases hj : j = x
    · rw [hj, er_st_s, er_u_s]
    · rw [er_st_k hj, er_u_n hj]; exact (b14.2.2.2.2 j j0 j1).2.2
theorem sp_R_select {r c : Int} {Q : Int → er_M → Prop} (h : er_CI m b H n f c0) (i1 : er_in r) (i2 : er_in c) (hQ : ∀ m' a, a = er_aSel b H r c → er_CI m' a.2.1 a.2.2 n f c0 → er_kp er_cf m m' → Q a.1 m') : er_SI K mi_R_select [.inr 1, .inl r, .inl c] m Q := by
  obtain ⟨⟨hb, hv, hh, ht⟩, -⟩ := id h
  refine vc_R_select (sp_B_has hv hb i1 i2 (fun hon => ?_) (fun hoff => ?_))
  · obtain ⟨x0, x1, x2, x3⟩ := er_obd_pl hv hon
    have hx := hb.2.2.2.2 _ x0 x1
    have h3 : m 3 (6 * r + c) = er_bk b (6 * r + c) := hx.1
    have h5 : m 5 (6 * r + c) = er_bs b (6 * r + c) := hx.2.2
    have hkd := hv.2.2.2.2.2.2.2.2.1 _ x0 x1
    have hsd := hv.2.2.2.2.2.2.2.2.2.2.2 _ x0 x1
    refine ⟨by decide, fun _ => vc_R_placeOf ?_, fun z => absurd z (by decide)⟩
    rw [show r * 6 + c = 6 * r + c by omega, h3, h5]
    refine ⟨x0, x1, ⟨by omega, by omega⟩, fun hne => ?_, fun hk1 => ⟨⟨by omega, by omega⟩, fun hz => ?_, fun hnz => ?_⟩⟩
    · refine hQ m (-2, b, H) ?_ h er_kp.rf
      unfold er_aSel
      rw [er_if_f (fun z => z hon), er_if_t (Or.inl hne)]
    · refine sp_R_beginEdit h (fun m13 b13 h13 t13 c13 k13 s13 m14 e14 => ?_)
      have n14 : er_kp (fun c _ => c = 5) m13 m14 := by rw [e14]; exact er_kp.st rfl
      have hv' := er_BV_sel (x := 6 * r + c) hv (Or.inr ⟨rfl, hk1⟩)
      have hb' := er_sel_new b13 e14
      refine sp_B_countSelected hv' hb' ?_
      refine hQ m14 (er_nsel (er_b_sel b (6 * r + c) 1), er_b_sel b (6 * r + c) 1, er_push H b) ?_ (er_CI_new hb' hv' (h13.kp n14 (fun q k a z => by omega)) (t13.kp n14 (by omega) (fun k => by omega)) (c13.kp n14 (fun q k a => by omega))) (k13.tr (n14.wk (fun c k z => by unfold er_cf; omega)))
      unfold er_aSel
      rw [er_if_f (fun z => z hon), er_if_f (fun z => by omega)]
    · refine hQ m (-2, b, H) ?_ h er_kp.rf
      unfold er_aSel
      rw [er_if_f (fun z => z hon), er_if_t (Or.inr hnz)]
  · exact ⟨by decide, fun z => absurd rfl z, fun _ => hQ m (-1, b, H) (er_if_t hoff).symm h er_kp.rf⟩
theorem sp_R_deselect {r c : Int} {Q : Int → er_M → Prop} (h : er_CI m b H n f c0) (i1 : er_in r) (i2 : er_in c) (hQ : ∀ m' a, a = er_aDes b H r c → er_CI m' a.2.1 a.2.2 n f c0 → er_kp er_cf m m' → Q a.1 m') : er_SI K mi_R_deselect [.inr 1, .inl r, .inl c] m Q := by
  obtain ⟨⟨hb, hv, hh, ht⟩, -⟩ := id h
  refine vc_R_deselect (sp_B_has hv hb i1 i2 (fun hon => ?_) (fun hoff => ?_))
  · obtain ⟨x0, x1, x2, x3⟩ := er_obd_pl hv hon
    have hx := hb.2.2.2.2 _ x0 x1
    have h5 : m 5 (6 * r + c) = er_bs b (6 * r + c) := hx.2.2
    have hsd := hv.2.2.2.2.2.2.2.2.2.2.2 _ x0 x1
    refine ⟨by decide, fun _ => vc_R_placeOf ?_, fun z => absurd z (by decide)⟩
    rw [show r * 6 + c = 6 * r + c by omega, h5]
    refine ⟨x0, x1, ⟨by omega, by omega⟩, fun hnz => ?_, fun hz => ?_⟩
    · refine sp_R_beginEdit h (fun m13 b13 h13 t13 c13 k13 s13 m14 e14 => ?_)
      have n14 : er_kp (fun c _ => c = 5) m13 m14 := by rw [e14]; exact er_kp.st rfl
      have hv' := er_BV_sel (x := 6 * r + c) hv (Or.inl rfl)
      have hb' := er_sel_new b13 e14
      refine sp_B_countSelected hv' hb' ?_
      refine hQ m14 (er_nsel (er_b_sel b (6 * r + c) 0), er_b_sel b (6 * r + c) 0, er_push H b) ?_ (er_CI_new hb' hv' (h13.kp n14 (fun q k a z => by omega)) (t13.kp n14 (by omega) (fun k => by omega)) (c13.kp n14 (fun q k a => by omega))) (k13.tr (n14.wk (fun c k z => by unfold er_cf; omega)))
      unfold er_aDes
      rw [er_if_f (fun z => z hon), er_if_f hnz]
    · refine hQ m (-2, b, H) ?_ h er_kp.rf
      unfold er_aDes
      rw [er_if_f (fun z => z hon), er_if_t hz]
  · exact ⟨by decide, fun z => absurd rfl z, fun _ => hQ m (-1, b, H) (er_if_t hoff).symm h er_kp.rf⟩
theorem sp_R_clearSelection {Q : Int → er_M → Prop} (h : er_CI m b H n f c0) (hQ : ∀ m' a, a = er_aWipe b H → er_CI m' a.2.1 a.2.2 n f c0 → er_kp er_cf m m' → Q a.1 m') : er_SI K mi_R_clearSelection [.inr 1] m Q := by
  obtain ⟨⟨hb, hv, hh, ht⟩, -⟩ := id h
  have hbd := er_nsel_bd hv
  refine vc_R_clearSelection (sp_B_countSelected hv hb ⟨⟨by omega, by omega⟩, fun hnz => ?_, fun hz => ?_⟩)
  · refine sp_R_beginEdit h (fun m5 b5 h5 t5 c5 k5 s5 => ?_)
    have loop : ∀ (d x : Nat) (m1 : er_M), x + d = 36 → (∀ j : Int, 0 ≤ j → j < x → m1 5 j = 0) → er_kp (fun c _ => c = 5) m5 m1 → wp_R_clearSelection_21 K (er_nsel b) (x : Int) m1 Q := by
      intro d
      induction d with
      | zero =>
        intro x m1 hx h0 k1
        refine vc_R_clearSelection_21 ⟨⟨by omega, by omega⟩, fun _ => ?_, fun hlt => by omega⟩
        refine hQ m1 (er_nsel b, er_b_wipe b, er_push H b) (er_if_f hnz).symm (er_CI_new ⟨?_, ?_, ?_, ?_, fun j j0 j1 => ⟨?_, ?_, h0 j j0 (by omega)⟩⟩ (er_BV_wipe hv) (h5.kp k1 (fun q k a z => by omega)) (t5.kp k1 (by omega) (fun k => by omega)) (c5.kp k1 (fun q k a => by omega))) (k5.tr (k1.wk (fun c k z => by unfold er_cf; omega)))
        · rw [k1 2 0 (by decide)]; exact b5.1
        · rw [k1 2 1 (by decide)]; exact b5.2.1
        · rw [k1 2 2 (by decide)]; exact b5.2.2.1
        · rw [k1 2 3 (by decide)]; exact b5.2.2.2.1
        · rw [k1 _ _ (by omega)]; exact (b5.2.2.2.2 j j0 j1).1
        · rw [k1 _ _ (by omega)]; exact (b5.2.2.2.2 j j0 j1).2.1
      | succ d ih =>
        intro x m1 hx h0 k1
        refine vc_R_clearSelection_21 ⟨⟨by omega, by omega⟩, fun hle => by omega, fun _ => ⟨by omega, by omega, fun m6 e6 => ?_⟩⟩
        refine ih (x + 1) m6 (by omega) (fun j j0 j1 => ?_) (k1.tr (by rw [e6]; exact er_kp.st rfl))
        rw [e6]
        by_cases hj : j = x
        · rw [hj, er_st_s]
        · rw [er_st_k hj]; exact h0 j j0 (by omega)
    exact loop 36 0 m5 rfl (fun j j0 j1 => by omega) er_kp.rf
  · exact hQ m (-2, b, H) (er_if_t hz).symm h er_kp.rf
theorem sp_R_makePair {r1 c1 r2 c2 : Int} {Q : Int → er_M → Prop} (h : er_CI m b H n f c0) (i1 : er_in r1) (i2 : er_in c1) (i3 : er_in r2) (i4 : er_in c2) (hQ : ∀ m' a, a = er_aPair b H r1 c1 r2 c2 → er_CI m' a.2.1 a.2.2 n f c0 → er_kp er_cf m m' → Q a.1 m') : er_SI K mi_R_makePair [.inr 1, .inl r1, .inl c1, .inl r2, .inl c2] m Q := by
  obtain ⟨⟨hb, hv, hh, ht⟩, -⟩ := id h
  have hR := hv.2.1
  have hC := hv.2.2.2.1
  refine vc_R_makePair (sp_B_has hv hb i1 i2 (fun on1 => ?_) (fun off1 => ?_))
  · refine ⟨by decide, fun z => absurd z (by decide), fun _ => sp_B_has hv hb i3 i4 (fun on2 => ?_) (fun off2 => ?_)⟩
    · have o1 := on1
      have o2 := on2
      unfold er_obd at o1 o2
      refine ⟨by decide, fun _ => ⟨⟨by omega, by omega⟩, ⟨by omega, by omega⟩, ⟨by omega, by omega⟩, fun h1 => ?_, fun h1 => ?_⟩, fun z => absurd z (by decide)⟩
      · have hadj : er_adj r1 c1 r2 c2 := by unfold er_adj; omega
        obtain ⟨x0, x1, x2, x3⟩ := er_obd_pl hv on1
        obtain ⟨y0, y1, y2, y3⟩ := er_obd_pl hv on2
        refine vc_R_placeOf (vc_R_placeOf ?_)
        rw [show r1 * 6 + c1 = 6 * r1 + c1 by omega, show r2 * 6 + c2 = 6 * r2 + c2 by omega]
        have hne : 6 * r1 + c1 ≠ 6 * r2 + c2 := by
          unfold er_adj at hadj
          omega
        refine sp_B_isFree hv hb x0 x1 (fun f1 => ?_) (fun nf1 => ?_)
        · refine ⟨by decide, fun z => absurd z (by decide), fun _ => sp_B_isFree hv hb y0 y1 (fun f2 => ?_) (fun nf2 => ?_)⟩
          · refine ⟨by decide, fun _ => ?_, fun z => absurd z (by decide)⟩
            refine sp_R_beginEdit h (fun m25 b25 h25 t25 c25 k25 s25 => ⟨x0, x1, fun m28 e28 => ⟨y0, y1, fun m31 e31 => ?_⟩⟩)
            have n31 : er_kp (fun c _ => c = 4) m25 m31 := by rw [e31, e28]; exact (er_kp.st rfl).tr (er_kp.st rfl)
            have hv' := er_BV_pair hv x0 x1 y0 y1 hne f1.2 f2.2 f1.1 f2.1
            have hb' : er_CB 2 m31 (er_b_pair b (6 * r1 + c1) (6 * r2 + c2)) := by
              refine ⟨?_, ?_, ?_, ?_, fun j j0 j1 => ⟨?_, ?_, ?_⟩⟩
              · rw [n31 2 0 (by decide)]; exact b25.1
              · rw [n31 2 1 (by decide)]; exact b25.2.1
              · rw [n31 2 2 (by decide)]; exact b25.2.2.1
              · rw [n31 2 3 (by decide)]; exact b25.2.2.2.1
              · rw [n31 _ _ (by omega)]; exact (b25.2.2.2.2 j j0 j1).1
              · show m31 4 j = er_u (er_u (er_bp b) (6 * r1 + c1) (6 * r2 + c2)) (6 * r2 + c2) (6 * r1 + c1) j
                rw [e31]
                by_cases hj : j = 6 * r2 + c2
                · rw [hj, er_st_s, er_u_s]
                · rw [er_st_k hj, er_u_n hj, e28]
                  by_cases hj2 : j = 6 * r1 + c1
                  · rw [hj2, er_st_s, er_u_s]
                  · rw [er_st_k hj2, er_u_n hj2]
                    exact (b25.2.2.2.2 j j0 j1).2.1
              · rw [n31 _ _ (by omega)]; exact (b25.2.2.2.2 j j0 j1).2.2
            refine sp_B_countPairs hv' hb' ?_
            refine hQ m31 (er_npair (er_b_pair b (6 * r1 + c1) (6 * r2 + c2)), er_b_pair b (6 * r1 + c1) (6 * r2 + c2), er_push H b) ?_ (er_CI_new hb' hv' (h25.kp n31 (fun q k a z => by omega)) (t25.kp n31 (by omega) (fun k => by omega)) (c25.kp n31 (fun q k a => by omega))) (k25.tr (n31.wk (fun c k z => by unfold er_cf; omega)))
            unfold er_aPair
            rw [er_if_f (fun z => z.elim (fun z => z on1) (fun z => z.elim (fun z => z on2) (fun z => z hadj))), er_if_f (fun z => z.elim (fun z => z f1) (fun z => z f2))]
          · refine ⟨by decide, fun z => absurd rfl z, fun _ => hQ m (-2, b, H) ?_ h er_kp.rf⟩
            have nf2' : ¬ er_fre b (6 * r2 + c2) := nf2
            unfold er_aPair
            rw [er_if_f (fun z => z.elim (fun z => z on1) (fun z => z.elim (fun z => z on2) (fun z => z hadj))), er_if_t (Or.inr nf2')]
        · refine ⟨by decide, fun _ => hQ m (-2, b, H) ?_ h er_kp.rf, fun z => absurd rfl z⟩
          have nf1' : ¬ er_fre b (6 * r1 + c1) := nf1
          unfold er_aPair
          rw [er_if_f (fun z => z.elim (fun z => z on1) (fun z => z.elim (fun z => z on2) (fun z => z hadj))), er_if_t (Or.inl nf1')]
      · refine hQ m (-1, b, H) (er_if_t (Or.inr (Or.inr (fun z => ?_)))).symm h er_kp.rf
        unfold er_adj at z
        omega
    · exact ⟨by decide, fun z => absurd rfl z, fun _ => hQ m (-1, b, H) (er_if_t (Or.inr (Or.inl off2))).symm h er_kp.rf⟩
  · exact ⟨by decide, fun _ => hQ m (-1, b, H) (er_if_t (Or.inl off1)).symm h er_kp.rf, fun z => absurd rfl z⟩
theorem er_CI.kq {F : Nat → Int → Prop} {m' : er_M} (h : er_CI m b H n f c0) (hk : er_kp F m m') (hF : ∀ q k, q = 1 ∨ (2 ≤ q ∧ q ≤ 39) ∨ (43 ≤ q ∧ q ≤ 81) → ¬ F q k) {n' : Nat} {f' : Int → Int} (ht : er_TX m' n' f') : er_CI m' b H n' f' c0 := by
  obtain ⟨⟨hb, hv, hh, -⟩, ⟨hs, ht9⟩, hl, hck⟩ := h
  have e : ∀ q k, q = 1 ∨ (2 ≤ q ∧ q ≤ 39) ∨ (43 ≤ q ∧ q ≤ 81) → m' q k = m q k := fun q k hq => hk q k (hF q k hq)
  have e1 : m' 1 = m 1 := funext fun k => e 1 k (Or.inl rfl)
  have e47 : m' 47 = m 47 := funext fun k => e 47 k (by omega)
  refine ⟨⟨hb.kp hk (fun q k a z => hF q k (by omega)), hv, hh.kp hk (fun q k a z => hF q k (by omega)), ht⟩, ⟨?_, ?_⟩, fun s hs => ?_, hck.kp hk (fun q k a z => hF q k (by omega))⟩
  · rcases hs with z | ⟨z, z1, z2, z3, z4, z5⟩
    · exact Or.inl (by rw [e1]; exact z)
    · refine Or.inr ⟨by rw [e1]; exact z, z1.kpF hk (fun k => hF _ _ (by omega)) (fun k => hF _ _ (by omega)) (fun k => hF _ _ (by omega)) (hF _ _ (by omega)), by rw [e1, e47]; exact z2, fun v v0 v1 => ?_, by rw [e 43 9 (by omega)]; exact z4, by rw [e1]; exact z5⟩
      have := z3 v v0 v1
      unfold er_mk at this ⊢
      rw [e (43 + 6) v (by omega), e 43 10 (by omega), e47]
      exact this
  · rw [e1]; exact ht9
  · obtain ⟨l1, l2, l3⟩ := hl s hs
    refine ⟨by rw [e 61 _ (by omega)]; exact l1, by rw [e _ 0 (by omega)]; exact l2, ?_⟩
    rw [e (62 + 5 * s) 8 (by omega)]
    refine l3.imp id (fun z => ⟨z.1, ?_⟩)
    unfold er_LO at z ⊢
    rw [e (62 + 5 * s) 6 (by omega), e (62 + 5 * s) 7 (by omega)]
    refine ⟨fun j j0 j1 => ?_, z.2.2⟩
    rw [e (62 + 5 * s + 4) j (by omega)]
    exact z.2.1 j j0 j1
theorem sp_R_append {v : Int} {Q : Int → er_M → Prop} (h : er_CI m b H n f c0) (i1 : er_in v) (hQ : ∀ m' a, a = er_aApp n f v → er_CI m' b H a.2.1 a.2.2 c0 → er_kp er_cf m m' → Q a.1 m') : er_SI K mi_R_appendCharacter [.inr 1, .inl v] m Q := by
  obtain ⟨⟨hb, hv, hh, ht⟩, -⟩ := id h
  obtain ⟨t1, t2, t3⟩ := id ht
  refine vc_R_appendCharacter ⟨i1, fun hneg => ?_, fun h0 => ⟨fun h255 => ?_, fun h255 => ?_⟩⟩
  · exact hQ m (-1, n, f) (er_if_t (Or.inl hneg)).symm h er_kp.rf
  · refine vc_G_add ⟨⟨by omega, by omega⟩, fun hlt => ⟨by omega, by omega, fun m5 e5 m6 e6 => ⟨by decide, fun z => absurd z (by decide), fun _ => ?_⟩⟩, fun hge => ⟨by decide, fun _ => ?_, fun z => absurd rfl z⟩⟩
    · have k6 : er_kp (fun c k => c = 41 ∨ (c = 40 ∧ k = 1)) m m6 := by rw [e6, e5]; exact (er_kp.st (Or.inl rfl)).tr (er_kp.st (Or.inr ⟨rfl, rfl⟩))
      have e61 : m6 40 1 = (n : Int) + 1 := by rw [e6, er_st_s, e5, er_st_c (by decide), t2]
      rw [e61]
      refine hQ m6 ((n : Int) + 1, n + 1, er_u f n v) ?_ (h.kq k6 (fun q k z => by omega) ⟨by simp only; omega, by rw [e61]; simp, fun j j0 j1 => ?_⟩) (k6.wk (fun c k z => by unfold er_cf; omega))
      · unfold er_aApp
        rw [er_if_f (fun z => by omega), er_if_f (by omega)]
      · simp only
        simp only at j1
        rw [e6, er_st_c (by decide), e5, t2]
        by_cases hj : j = n
        · rw [hj, er_st_s, er_u_s]; exact ⟨rfl, h0, h255⟩
        · rw [er_st_k hj, er_u_n hj]; exact t3 j j0 (by omega)
    · refine hQ m (-3, n, f) ?_ h er_kp.rf
      unfold er_aApp
      rw [er_if_f (fun z => by omega), er_if_t (by omega)]
  · exact hQ m (-1, n, f) (er_if_t (Or.inr h255)).symm h er_kp.rf
theorem sp_R_clearText {Q : Int → er_M → Prop} (h : er_CI m b H n f c0) (hQ : ∀ m', er_CI m' b H 0 f c0 → er_kp er_cf m m' → Q (n : Int) m') : er_SI K mi_R_clearText [.inr 1] m Q := by
  obtain ⟨⟨hb, hv, hh, ht⟩, -⟩ := id h
  refine vc_R_clearText (fun m1 e1 => ?_)
  rw [ht.2.1]
  have k1 : er_kp (fun c k => c = 40 ∧ k = 1) m m1 := by rw [e1]; exact er_kp.st ⟨rfl, rfl⟩
  exact hQ m1 (h.kq k1 (fun q k z => by omega) ⟨by omega, by rw [e1, er_st_s]; rfl, fun j j0 j1 => by omega⟩) (k1.wk (fun c k z => by unfold er_cf; omega))
theorem sp_R_loadGrid {Q : Int → er_M → Prop} (h : er_CI m b H n f c0) (hQ : ∀ m' a, a = er_aLoad b H n f → er_CI m' a.2.1 a.2.2.1 a.2.2.2 f c0 → er_kp er_cf m m' → Q a.1 m') : er_SI K mi_R_loadGrid [.inr 1] m Q := by
  obtain ⟨⟨hb, hv, hh, ht⟩, -⟩ := id h
  have hn60 := ht.1
  refine vc_R_loadGrid (sp_G_read ht (fun m1 r st hrd hpj hgr k1 => ?_))
  have hok := er_rd_ok f n 0 er_st0
  have hc1 := h.kq k1 (fun q k z => by unfold er_GF; omega) (ht.kp k1 (by unfold er_GF; omega) (fun k => by unfold er_GF; omega))
  have kc1 : er_kp er_cf m m1 := k1.wk (fun c k z => by unfold er_GF at z; unfold er_cf; omega)
  unfold er_aLoad at hQ
  rw [hrd] at hok hQ
  simp only at hok hQ
  refine ⟨by rcases hok.2 with z | z <;> exact ⟨by omega, by omega⟩, fun hr => ?_, fun hr => ?_⟩
  · refine sp_R_beginEdit hc1 (fun m5 b5 h5 t5 c5 k5 s5 => ?_)
    obtain ⟨p1, p2⟩ := hok.1 hr
    have hgr5 : er_GR m5 st := ⟨by rw [s5 40 2 (by omega)]; exact hgr.1, by rw [s5 40 3 (by omega)]; exact hgr.2.1, fun j j0 j1 hw => by rw [s5 42 j (by omega)]; exact hgr.2.2 j j0 j1 hw⟩
    refine sp_B_replaceGrid hv b5 hgr5 hpj p1 p2 (fun m6 b6 k6 m7 e7 => ?_)
    have k7 : er_kp (fun c k => c = 40 ∧ k = 1) m6 m7 := by rw [e7]; exact er_kp.st ⟨rfl, rfl⟩
    have hv' := er_BV_grid hv hpj p1 p2
    have b7 := b6.kp k7 (fun q k a z => by omega)
    refine sp_B_countSignals hv' b7 ?_
    refine hQ m7 (er_sig (er_b_grid b st), er_b_grid b st, er_push H b, 0) (er_if_t hr).symm (er_CI_new b7 hv' ((h5.kp k6 (fun q k a z => by omega)).kp k7 (fun q k a z => by omega)) ⟨by simp only; omega, by rw [e7, er_st_s]; rfl, fun j j0 j1 => by simp only at j1; omega⟩ ((c5.kp k6 (fun q k a => by omega)).kp k7 (fun q k a => by omega))) (kc1.tr (k5.tr ((k6.wk (fun c k z => by unfold er_cf; omega)).tr (k7.wk (fun c k z => by unfold er_cf; omega)))))
  · exact hQ m1 (-10 - r, b, H, n) (er_if_f hr).symm hc1 kc1
noncomputable def er_aUndo (b : er_Bo) (H : List er_Bo) : Int × er_Bo × List er_Bo := er_if (H = []) (-2, b, H) ((H.length : Int) - 1, H.getLastD b, H.dropLast)
theorem sp_R_undo {Q : Int → er_M → Prop} (h : er_CI m b H n f c0) (hQ : ∀ m' a, a = er_aUndo b H → er_CI m' a.2.1 a.2.2 n f c0 → er_kp er_cf m m' → Q a.1 m') : er_SI K mi_R_undo [.inr 1] m Q := by
  obtain ⟨⟨hb, hv, hh, ht⟩, hsol, hl, hck⟩ := id h
  have hh1 := hh.1
  have hh2 := hh.2.1
  refine vc_R_undo ⟨⟨by omega, by omega⟩, fun hnz => ?_, fun hz => ?_⟩
  · have hne : H ≠ [] := fun z => by rw [z] at hh1; exact hnz hh1
    have hsp := List.dropLast_concat_getLast hne
    have hgl : H.getLastD b = H.getLast hne := by rw [List.getLastD_eq_getLast?, List.getLast?_eq_some_getLast hne]; rfl
    have hlen : H.length = H.dropLast.length + 1 := by
      have := congrArg List.length hsp
      rw [List.length_append, List.length_singleton] at this
      omega
    rw [← hgl] at hsp
    have hh' : er_HI m (H.dropLast ++ [H.getLastD b]) := by rw [hsp]; exact hh
    refine sp_H_giveBack hh' (fun m3 h3 b3 v3 k3 => ?_)
    refine sp_R_forget (fun s hs => by rw [k3 61 _ (by omega)]; exact (hl s hs).1) (fun m4 a7 a9 a8 k4 => ?_)
    have g6 : m4 6 1 = (H.dropLast.length : Int) := by rw [k4 6 1 (by unfold er_fgF; omega)]; exact h3.1
    rw [g6, show (H.dropLast.length : Int) = (H.length : Int) - 1 by omega]
    refine hQ m4 ((H.length : Int) - 1, H.getLastD b, H.dropLast) (er_if_f hne).symm (er_CI_new (b3.kp k4 (fun q k q0 q1 => by unfold er_fgF; omega)) v3 (h3.kp k4 (fun q k q0 q1 => by unfold er_fgF; omega)) ((ht.kp k3 (by omega) (fun k => by omega)).kp k4 (by unfold er_fgF; omega) (fun k => by unfold er_fgF; omega)) ⟨a7, a9, fun s hs => ⟨?_, ?_, a8 s hs⟩, (hck.kp k3 (fun q k q0 q1 => by omega)).kp k4 (fun q k q0 q1 => by unfold er_fgF; omega)⟩) ((k3.wk (fun c k z => by unfold er_cf; omega)).tr (k4.wk (fun c k z => by unfold er_fgF at z; unfold er_cf; omega)))
    · rw [k4 61 _ (by unfold er_fgF; omega), k3 61 _ (by omega)]; exact (hl s hs).1
    · rw [k4 _ 0 (by unfold er_fgF; omega), k3 _ 0 (by omega)]; exact (hl s hs).2.1
  · have hnil : H = [] := List.eq_nil_of_length_eq_zero (by omega)
    exact hQ m (-2, b, H) (er_if_t hnil).symm h er_kp.rf
end ERCE
