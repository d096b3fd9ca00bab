/-! the reference's edits -/
section ERMA
variable {K : er_K} {m : er_M} {b : er_Bo} {H : List er_Bo} {n : Nat} {f : Int → Int}
/-- after an edit that keeps rows and columns -/
theorem er_RB_new {m14 m' : er_M} {b' : er_Bo} (h14 : er_RB m14 b) (hv : er_BV b') (hR : er_bR b' = er_bR b) (hC : er_bC b' = er_bC b) (e0 : m' 84 0 = m14 84 0) (e1 : m' 84 1 = m14 84 1) (e2 : m' 84 2 = er_bh b') (e3 : m' 84 3 = er_bt b') (h : ∀ j : Int, 0 ≤ j → j < 36 → m' 84 (4 + j) = er_bk b' j ∧ m' 84 (40 + j) = er_bp b' j + 1 ∧ m' 84 (76 + j) = er_bs b' j) : er_RB m' b' :=
  ⟨⟨by rw [e0, hR]; exact h14.1.1, by rw [e1, hC]; exact h14.1.2.1, e2, e3, hv.1, hv.2.1, hv.2.2.1, hv.2.2.2.1, hv.2.2.2.2.1, hv.2.2.2.2.2.1, hv.2.2.2.2.2.2.1, hv.2.2.2.2.2.2.2.1⟩, h⟩
theorem sp_M_begin {Q : er_M → Prop} (h : er_MI m b H n f) (hQ : ∀ m', er_RB m' b → er_MH m' (er_push H b) → er_TM m' n f → er_kp (fun c k => c = 85 ∨ (c = 83 ∧ k = 2)) m m' → Q m') : er_SV K mi_M_edit [.inr 83] m Q := by
  obtain ⟨hb, hv, hh, ht⟩ := h
  exact sp_M_edit hv hb hh (fun m' h1 k1 => hQ m' (hb.kp k1 (fun k => by omega)) h1 (ht.kp k1 (by omega) (fun k => by omega)) k1)
theorem sp_M_setKind {r c v : Int} {Q : Int → er_M → Prop} (h : er_MI m b H n f) (i1 : er_in r) (i2 : er_in c) (i3 : er_in v) (hQ : ∀ m' a, a = er_aKind b H r c v → er_MI m' a.2.1 a.2.2 n f → er_kp er_mf m m' → Q a.1 m') : er_SI K mi_M_setKind [.inr 83, .inl r, .inl c, .inl v] m Q := by
  obtain ⟨hb, hv, hh, ht⟩ := id h
  refine vc_M_setKind (sp_M_isPosition hv hb i1 i2 (fun hon => ?_) (fun hoff => ?_))
  · obtain ⟨x0, x1, x2, x3⟩ := er_obd_pl hv hon
    obtain ⟨g3, g4, g5⟩ := hb.2 _ x0 x1
    have hkd := hv.2.2.2.2.2.2.2.2.1 _ x0 x1
    refine ⟨by decide, fun z => absurd z (by decide), fun _ => sp_M_in i3 (by decide) (by decide) (fun h02 => ?_) (fun h02 => ?_)⟩
    · refine ⟨by decide, fun _ => ⟨by omega, by omega, ⟨by omega, by omega⟩, i3, ?_⟩, fun z => absurd z (by decide)⟩
      rw [g3]
      refine ⟨fun hne => ?_, fun he => ?_⟩
      · refine sp_M_begin h (fun m14 b14 h14 t14 k14 m15 e15 => ?_)
        refine sp_M_unpair hv (fun j j0 j1 => by rw [e15, er_st_k (by omega)]; exact (b14.2 j j0 j1).2.1) x0 x1 (fun m16 p16 k16 => ⟨by omega, by omega, fun m19 e19 => ?_⟩)
        have n19 : er_kp (fun c _ => c = 84) m14 m19 := by rw [e19]; exact ((show er_kp (fun c _ => c = 84) m14 m15 by rw [e15]; exact er_kp.st rfl).tr (k16.wk (fun c k z => z.1))).tr (er_kp.st rfl)
        have hv' := er_BV_kind hv x0 x1 ⟨by rw [x2]; exact hon.2.1, by rw [x3]; exact hon.2.2.2⟩ h02
        have low : ∀ k : Int, 0 ≤ k → k < 4 → m19 84 k = m14 84 k := fun k k0 k1 => by rw [e19, er_st_k (by omega), k16 84 k (by omega), e15, er_st_k (by omega)]
        refine hQ m19 (er_bk b (6 * r + c), er_b_kind b (6 * r + c) v, er_push H b) ?_ (er_MI_new (m := m14) (er_RB_new b14 hv' rfl rfl (low 0 (by decide) (by decide)) (low 1 (by decide) (by decide)) (by rw [low 2 (by decide) (by decide)]; exact b14.1.2.2.1) (by rw [low 3 (by decide) (by decide)]; exact b14.1.2.2.2.1) (fun j j0 j1 => ⟨?_, ?_, ?_⟩)) hv' (h14.kp n19 (fun k => by omega) (by omega)) (t14.kp n19 (by omega) (fun k => by omega))) ((k14.wk (fun c k z => by unfold er_mf; omega)).tr (n19.wk (fun c k z => by unfold er_mf; omega)))
        · unfold er_aKind
          rw [er_if_f (fun z => by rcases z with z | z | z; exact z hon; omega; omega), er_if_f hne]
        · show m19 84 (4 + j) = er_u (er_bk b) (6 * r + c) v j
          rw [e19, er_st_k (by omega), k16 84 _ (by omega), e15]
          by_cases hj : j = 6 * r + c
          · rw [hj, er_st_s, er_u_s]
          · rw [er_st_k (by omega), er_u_n hj]; exact (b14.2 j j0 j1).1
        · show m19 84 (40 + j) = er_sep (er_bp b) (6 * r + c) j + 1
          rw [e19, er_st_k (by omega)]
          exact p16 j j0 j1
        · show m19 84 (76 + j) = er_u (er_bs b) (6 * r + c) 0 j
          rw [e19]
          by_cases hj : j = 6 * r + c
          · rw [hj, er_st_s, er_u_s]
          · rw [er_st_k (by omega), er_u_n hj, k16 84 _ (by omega), e15, er_st_k (by omega)]; exact (b14.2 j j0 j1).2.2
      · refine hQ m (-2, b, H) ?_ h er_kp.rf
        unfold er_aKind
        rw [er_if_f (fun z => by rcases z with z | z | z; exact z hon; omega; omega), er_if_t he]
    · exact ⟨by decide, fun z => absurd rfl z, fun _ => hQ m (-1, b, H) (er_if_t (Or.inr (by omega))).symm h er_kp.rf⟩
  · exact ⟨by decide, fun _ => hQ m (-1, b, H) (er_if_t (Or.inl hoff)).symm h er_kp.rf, fun z => absurd rfl z⟩
theorem sp_M_setChan {v : Int} {Q : Int → er_M → Prop} (h : er_MI m b H n f) (i3 : er_in v) (hQ : ∀ m' a, a = er_aChan b H v → er_MI m' a.2.1 a.2.2 n f → er_kp er_mf m m' → Q a.1 m') : er_SI K mi_M_setChannelCapacity [.inr 83, .inl v] m Q := by
  obtain ⟨hb, hv, hh, ht⟩ := id h
  refine vc_M_setChannelCapacity (sp_M_in i3 (by decide) (by decide) (fun h05 => ⟨by decide, fun _ => ?_, fun z => absurd z (by decide)⟩) (fun h05 => ⟨by decide, fun z => absurd rfl z, fun _ => hQ m (-1, b, H) (er_if_t (by omega)).symm h er_kp.rf⟩))
  refine sp_M_begin h (fun m5 b5 h5 t5 k5 m6 e6 => ?_)
  have n6 : er_kp (fun c _ => c = 84) m5 m6 := by rw [e6]; exact er_kp.st rfl
  have hv' := er_BV_chan hv h05
  rw [b5.1.2.2.1]
  exact hQ m6 (er_bh b, er_b_chan b v, er_push H b) (er_if_f (fun z => by omega)).symm (er_MI_new (m := m5) (er_RB_new b5 hv' rfl rfl (by rw [e6, er_st_k (by decide)]) (by rw [e6, er_st_k (by decide)]) (by rw [e6, er_st_s]; rfl) (by rw [e6, er_st_k (by decide)]; exact b5.1.2.2.2.1) (fun j j0 j1 => by rw [e6, er_st_k (by omega), er_st_k (by omega), er_st_k (by omega)]; exact b5.2 j j0 j1)) hv' (h5.kp n6 (fun k => by omega) (by omega)) (t5.kp n6 (by omega) (fun k => by omega))) ((k5.wk (fun c k z => by unfold er_mf; omega)).tr (n6.wk (fun c k z => by unfold er_mf; omega)))
theorem sp_M_setTile {v : Int} {Q : Int → er_M → Prop} (h : er_MI m b H n f) (i3 : er_in v) (hQ : ∀ m' a, a = er_aTile b H v → er_MI m' a.2.1 a.2.2 n f → er_kp er_mf m m' → Q a.1 m') : er_SI K mi_M_setTileCapacity [.inr 83, .inl v] m Q := by
  obtain ⟨hb, hv, hh, ht⟩ := id h
  refine vc_M_setTileCapacity (sp_M_in i3 (by decide) (by decide) (fun h05 => ⟨by decide, fun _ => ?_, fun z => absurd z (by decide)⟩) (fun h05 => ⟨by decide, fun z => absurd rfl z, fun _ => hQ m (-1, b, H) (er_if_t (by omega)).symm h er_kp.rf⟩))
  refine sp_M_begin h (fun m5 b5 h5 t5 k5 m6 e6 => ?_)
  have n6 : er_kp (fun c _ => c = 84) m5 m6 := by rw [e6]; exact er_kp.st rfl
  have hv' := er_BV_tile hv h05
  rw [b5.1.2.2.2.1]
  exact hQ m6 (er_bt b, er_b_tile b v, er_push H b) (er_if_f (fun z => by omega)).symm (er_MI_new (m := m5) (er_RB_new b5 hv' rfl rfl (by rw [e6, er_st_k (by decide)]) (by rw [e6, er_st_k (by decide)]) (by rw [e6, er_st_k (by decide)]; exact b5.1.2.2.1) (by rw [e6, er_st_s]; rfl) (fun j j0 j1 => by rw [e6, er_st_k (by omega), er_st_k (by omega), er_st_k (by omega)]; exact b5.2 j j0 j1)) hv' (h5.kp n6 (fun k => by omega) (by omega)) (t5.kp n6 (by omega) (fun k => by omega))) ((k5.wk (fun c k z => by unfold er_mf; omega)).tr (n6.wk (fun c k z => by unfold er_mf; omega)))
theorem sp_M_breakPair {r c : Int} {Q : Int → er_M → Prop} (h : er_MI m b H n f) (i1 : er_in r) (i2 : er_in c) (hQ : ∀ m' a, a = er_aFree b H r c → er_MI m' a.2.1 a.2.2 n f → er_kp er_mf m m' → Q a.1 m') : er_SI K mi_M_breakPair [.inr 83, .inl r, .inl c] m Q := by
  obtain ⟨hb, hv, hh, ht⟩ := id h
  refine vc_M_breakPair (sp_M_isPosition hv hb i1 i2 (fun hon => ?_) (fun hoff => ?_))
  · obtain ⟨x0, x1, x2, x3⟩ := er_obd_pl hv hon
    obtain ⟨g3, g4, g5⟩ := hb.2 _ x0 x1
    have hpd := hv.2.2.2.2.2.2.2.2.2.2.1 _ x0 x1
    refine ⟨by decide, fun _ => ?_, fun z => absurd z (by decide)⟩
    rw [show 40 + 6 * r + c = 40 + (6 * r + c) by omega, g4]
    refine ⟨by omega, by omega, by rcases hpd with z | z <;> exact ⟨by omega, by omega⟩, fun hne => ?_, fun he => ?_⟩
    · refine sp_M_begin h (fun m9 b9 h9 t9 k9 => ?_)
      refine sp_M_unpair hv (fun j j0 j1 => (b9.2 j j0 j1).2.1) x0 x1 (fun m10 p10 k10 => ?_)
      have hv' := er_BV_free hv x0 x1
      have low : ∀ k : Int, k < 40 ∨ 76 ≤ k → m10 84 k = m9 84 k := fun k kk => k10 84 k (by omega)
      have hb' : er_RB m10 (er_b_free b (6 * r + c)) := er_RB_new b9 hv' rfl rfl (low 0 (by decide)) (low 1 (by decide)) (by rw [low 2 (by decide)]; exact b9.1.2.2.1) (by rw [low 3 (by decide)]; exact b9.1.2.2.2.1) (fun j j0 j1 => ⟨by rw [low _ (by omega)]; exact (b9.2 j j0 j1).1, p10 j j0 j1, by rw [low _ (by omega)]; exact (b9.2 j j0 j1).2.2⟩)
      refine sp_M_pairs hv' hb' ?_
      refine hQ m10 (er_npair (er_b_free b (6 * r + c)), er_b_free b (6 * r + c), er_push H b) ?_ (er_MI_new (m := m9) hb' hv' (h9.kp k10 (fun k => by omega) (by omega)) (t9.kp k10 (by omega) (fun k => by omega))) ((k9.wk (fun c k z => by unfold er_mf; omega)).tr (k10.wk (fun c k z => by unfold er_mf; omega)))
      unfold er_aFree
      rw [er_if_f (fun z => z hon), er_if_f (by omega)]
    · refine hQ m (-2, b, H) ?_ h er_kp.rf
      unfold er_aFree
      rw [er_if_f (fun z => z hon), er_if_t (by omega)]
  · exact ⟨by decide, fun z => absurd rfl z, fun _ => hQ m (-1, b, H) (er_if_t hoff).symm h er_kp.rf⟩
/-- a place is selected or not -/
theorem er_RB_sel {m13 m' : er_M} {x v : Int} (b13 : er_RB m13 b) (hv' : er_BV (er_b_sel b x v)) (x0 : 0 ≤ x) (x1 : x < 36) (e : m' = er_st m13 84 (76 + x) v) : er_RB m' (er_b_sel b x v) := by
  refine er_RB_new b13 hv' rfl rfl (by rw [e, er_st_k (by omega)]) (by rw [e, er_st_k (by omega)]) (by rw [e, er_st_k (by omega)]; exact b13.1.2.2.1) (by rw [e, er_st_k (by omega)]; exact b13.1.2.2.2.1) (fun j j0 j1 => ⟨by rw [e, er_st_k (by omega)]; exact (b13.2 j j0 j1).1, by rw [e, er_st_k (by omega)]; exact (b13.2 j j0 j1).2.1, ?_⟩)
  show m' 84 (76 + j) = er_u (er_bs b) x v j
  rw [e]
  by_cases hj : j = x
  · rw [hj, er_st_s, er_u_s]
  · rw [er_st_k (by omega), er_u_n hj]; exact (b13.2 j j0 j1).2.2
theorem sp_M_select {r c : Int} {Q : Int → er_M → Prop} (h : er_MI m b H n f) (i1 : er_in r) (i2 : er_in c) (hQ : ∀ m' a, a = er_aSel b H r c → er_MI m' a.2.1 a.2.2 n f → er_kp er_mf m m' → Q a.1 m') : er_SI K mi_M_select [.inr 83, .inl r, .inl c] m Q := by
  obtain ⟨hb, hv, hh, ht⟩ := id h
  refine vc_M_select (sp_M_isPosition hv hb i1 i2 (fun hon => ?_) (fun hoff => ?_))
  · obtain ⟨x0, x1, x2, x3⟩ := er_obd_pl hv hon
    obtain ⟨g3, g4, g5⟩ := hb.2 _ x0 x1
    have hkd := hv.2.2.2.2.2.2.2.2.1 _ x0 x1
    have hsd := hv.2.2.2.2.2.2.2.2.2.2.2 _ x0 x1
    refine ⟨by decide, fun _ => ?_, fun z => absurd z (by decide)⟩
    rw [g3, g5]
    refine ⟨by omega, by omega, ⟨by omega, by omega⟩, fun hne => ?_, fun hk1 => ⟨by omega, by omega, ⟨by omega, by omega⟩, fun hz => ?_, fun hnz => ?_⟩⟩
    · refine hQ m (-2, b, H) ?_ h er_kp.rf
      unfold er_aSel
      rw [er_if_f (fun z => z hon), er_if_t (Or.inl hne)]
    · refine sp_M_begin h (fun m13 b13 h13 t13 k13 m14 e14 => ?_)
      have n14 : er_kp (fun c _ => c = 84) m13 m14 := by rw [e14]; exact er_kp.st rfl
      have hv' := er_BV_sel (x := 6 * r + c) hv (Or.inr ⟨rfl, hk1⟩)
      have hb' := er_RB_sel b13 hv' x0 x1 e14
      refine sp_M_selected hb' ?_
      refine hQ m14 (er_nsel (er_b_sel b (6 * r + c) 1), er_b_sel b (6 * r + c) 1, er_push H b) ?_ (er_MI_new (m := m13) hb' hv' (h13.kp n14 (fun k => by omega) (by omega)) (t13.kp n14 (by omega) (fun k => by omega))) ((k13.wk (fun c k z => by unfold er_mf; omega)).tr (n14.wk (fun c k z => by unfold er_mf; omega)))
      unfold er_aSel
      rw [er_if_f (fun z => z hon), er_if_f (fun z => by omega)]
    · refine hQ m (-2, b, H) ?_ h er_kp.rf
      unfold er_aSel
      rw [er_if_f (fun z => z hon), er_if_t (Or.inr (by omega))]
  · exact ⟨by decide, fun z => absurd rfl z, fun _ => hQ m (-1, b, H) (er_if_t hoff).symm h er_kp.rf⟩
theorem sp_M_deselect {r c : Int} {Q : Int → er_M → Prop} (h : er_MI m b H n f) (i1 : er_in r) (i2 : er_in c) (hQ : ∀ m' a, a = er_aDes b H r c → er_MI m' a.2.1 a.2.2 n f → er_kp er_mf m m' → Q a.1 m') : er_SI K mi_M_deselect [.inr 83, .inl r, .inl c] m Q := by
  obtain ⟨hb, hv, hh, ht⟩ := id h
  refine vc_M_deselect (sp_M_isPosition hv hb i1 i2 (fun hon => ?_) (fun hoff => ?_))
  · obtain ⟨x0, x1, x2, x3⟩ := er_obd_pl hv hon
    obtain ⟨g3, g4, g5⟩ := hb.2 _ x0 x1
    have hsd := hv.2.2.2.2.2.2.2.2.2.2.2 _ x0 x1
    refine ⟨by decide, fun _ => ?_, fun z => absurd z (by decide)⟩
    rw [g5]
    refine ⟨by omega, by omega, ⟨by omega, by omega⟩, fun hnz => ?_, fun hz => ?_⟩
    · refine sp_M_begin h (fun m13 b13 h13 t13 k13 m14 e14 => ?_)
      have n14 : er_kp (fun c _ => c = 84) m13 m14 := by rw [e14]; exact er_kp.st rfl
      have hv' := er_BV_sel (x := 6 * r + c) hv (Or.inl rfl)
      have hb' := er_RB_sel b13 hv' x0 x1 e14
      refine sp_M_selected hb' ?_
      refine hQ m14 (er_nsel (er_b_sel b (6 * r + c) 0), er_b_sel b (6 * r + c) 0, er_push H b) ?_ (er_MI_new (m := m13) hb' hv' (h13.kp n14 (fun k => by omega) (by omega)) (t13.kp n14 (by omega) (fun k => by omega))) ((k13.wk (fun c k z => by unfold er_mf; omega)).tr (n14.wk (fun c k z => by unfold er_mf; omega)))
      unfold er_aDes
      rw [er_if_f (fun z => z hon), er_if_f hnz]
    · refine hQ m (-2, b, H) ?_ h er_kp.rf
      unfold er_aDes
      rw [er_if_f (fun z => z hon), er_if_t hz]
  · exact ⟨by decide, fun z => absurd rfl z, fun _ => hQ m (-1, b, H) (er_if_t hoff).symm h er_kp.rf⟩
theorem sp_M_clearSelection {Q : Int → er_M → Prop} (h : er_MI m b H n f) (hQ : ∀ m' a, a = er_aWipe b H → er_MI m' a.2.1 a.2.2 n f → er_kp er_mf m m' → Q a.1 m') : er_SI K mi_M_clearSelection [.inr 83] m Q := by
  obtain ⟨hb, hv, hh, ht⟩ := id h
  have hbd := er_nsel_bd hv
  refine vc_M_clearSelection (sp_M_selected hb ⟨⟨by omega, by omega⟩, fun hnz => ?_, fun hz => ?_⟩)
  · refine sp_M_begin h (fun m5 b5 h5 t5 k5 => ?_)
    have hv' := er_BV_wipe hv
    have loop : ∀ (d x : Nat) (m1 : er_M), x + d = 36 → (∀ j : Int, 0 ≤ j → j < x → m1 84 (76 + j) = 0) → er_kp (fun c k => c = 84 ∧ 76 ≤ k) m5 m1 → wp_M_clearSelection_18 K (er_nsel b) (x : Int) m1 Q := by
      intro d
      induction d with
      | zero =>
        intro x m1 hx h0 k1
        have low : ∀ k : Int, k < 76 → m1 84 k = m5 84 k := fun k kk => k1 84 k (by omega)
        refine vc_M_clearSelection_18 ⟨⟨by omega, by omega⟩, fun _ => ?_, fun hlt => by omega⟩
        refine hQ m1 (er_nsel b, er_b_wipe b, er_push H b) (er_if_f hnz).symm (er_MI_new (m := m5) (er_RB_new b5 hv' rfl rfl (low 0 (by decide)) (low 1 (by decide)) (by rw [low 2 (by decide)]; exact b5.1.2.2.1) (by rw [low 3 (by decide)]; exact b5.1.2.2.2.1) (fun j j0 j1 => ⟨by rw [low _ (by omega)]; exact (b5.2 j j0 j1).1, by rw [low _ (by omega)]; exact (b5.2 j j0 j1).2.1, h0 j j0 (by omega)⟩)) hv' (h5.kp k1 (fun k => by omega) (by omega)) (t5.kp k1 (by omega) (fun k => by omega))) ((k5.wk (fun c k z => by unfold er_mf; omega)).tr (k1.wk (fun c k z => by unfold er_mf; omega)))
      | succ d ih =>
        intro x m1 hx h0 k1
        refine vc_M_clearSelection_18 ⟨⟨by omega, by omega⟩, fun hle => by omega, fun _ => ⟨by omega, by omega, fun m6 e6 => ?_⟩⟩
        refine ih (x + 1) m6 (by omega) (fun j j0 j1 => ?_) (k1.tr (by rw [e6]; exact er_kp.st ⟨rfl, by omega⟩))
        rw [e6]
        by_cases hj : j = x
        · rw [hj, er_st_s]
        · rw [er_st_k (by omega)]; exact h0 j j0 (by omega)
    exact loop 36 0 m5 rfl (fun j j0 j1 => by omega) er_kp.rf
  · exact hQ m (-2, b, H) (er_if_t hz).symm h er_kp.rf
theorem er_sq (d : Int) (h0 : -5 ≤ d) (h1 : d ≤ 5) : 0 ≤ d * d ∧ d * d ≤ 25 ∧ (d * d = 0 ↔ d = 0) ∧ (d * d = 1 ↔ d = 1 ∨ d = -1) := by
  rcases (by omega : d = -5 ∨ d = -4 ∨ d = -3 ∨ d = -2 ∨ d = -1 ∨ d = 0 ∨ d = 1 ∨ d = 2 ∨ d = 3 ∨ d = 4 ∨ d = 5) with e | e | e | e | e | e | e | e | e | e | e <;> subst e <;> decide
theorem sp_M_makePair {r1 c1 r2 c2 : Int} {Q : Int → er_M → Prop} (h : er_MI m b H n f) (i1 : er_in r1) (i2 : er_in c1) (i3 : er_in r2) (i4 : er_in c2) (hQ : ∀ m' a, a = er_aPair b H r1 c1 r2 c2 → er_MI m' a.2.1 a.2.2 n f → er_kp er_mf m m' → Q a.1 m') : er_SI K mi_M_makePair [.inr 83, .inl r1, .inl c1, .inl r2, .inl c2] m Q := by
  obtain ⟨hb, hv, hh, ht⟩ := id h
  have hR := hv.2.1
  have hC := hv.2.2.2.1
  refine vc_M_makePair (sp_M_isPosition hv hb i1 i2 (fun on1 => ?_) (fun off1 => ?_))
  · refine ⟨by decide, fun z => absurd z (by decide), fun _ => sp_M_isPosition hv hb i3 i4 (fun on2 => ?_) (fun off2 => ?_)⟩
    · have o1 := on1
      have o2 := on2
      unfold er_obd at o1 o2
      have q1 := er_sq (r1 - r2) (by omega) (by omega)
      have q2 := er_sq (c1 - c2) (by omega) (by omega)
      generalize hs1 : (r1 - r2) * (r1 - r2) = s1 at q1 ⊢
      generalize hs2 : (c1 - c2) * (c1 - c2) = s2 at q2 ⊢
      refine ⟨by decide, fun _ => ⟨⟨by omega, by omega⟩, fun h1 => ?_, fun h1 => ?_⟩, fun z => absurd z (by decide)⟩
      · have hadj : er_adj r1 c1 r2 c2 := by unfold er_adj; omega
        obtain ⟨x0, x1, x2, x3⟩ := er_obd_pl hv on1
        obtain ⟨y0, y1, y2, y3⟩ := er_obd_pl hv on2
        have hne : 6 * r1 + c1 ≠ 6 * r2 + c2 := by
          unfold er_adj at hadj
          omega
        refine sp_M_isFree hv hb x0 x1 (fun f1 => ?_) (fun nf1 => ?_)
        · refine ⟨by decide, fun z => absurd z (by decide), fun _ => sp_M_isFree hv hb y0 y1 (fun f2 => ?_) (fun nf2 => ?_)⟩
          · refine ⟨by decide, fun _ => ?_, fun z => absurd z (by decide)⟩
            refine sp_M_begin h (fun m19 b19 h19 t19 k19 => ⟨by omega, by omega, fun m22 e22 => ⟨by omega, by omega, fun m25 e25 => ?_⟩⟩)
            have n25 : er_kp (fun c k => c = 84 ∧ 40 ≤ k ∧ k < 76) m19 m25 := by rw [e25, e22]; exact (er_kp.st ⟨rfl, by omega, by omega⟩).tr (er_kp.st ⟨rfl, by omega, by omega⟩)
            have low : ∀ k : Int, k < 40 ∨ 76 ≤ k → m25 84 k = m19 84 k := fun k kk => n25 84 k (by omega)
            have hv' := er_BV_pair hv x0 x1 y0 y1 hne f1.2 f2.2 f1.1 f2.1
            have hb' : er_RB m25 (er_b_pair b (6 * r1 + c1) (6 * r2 + c2)) := by
              refine er_RB_new b19 hv' rfl rfl (low 0 (by decide)) (low 1 (by decide)) (by rw [low 2 (by decide)]; exact b19.1.2.2.1) (by rw [low 3 (by decide)]; exact b19.1.2.2.2.1) (fun j j0 j1 => ⟨by rw [low _ (by omega)]; exact (b19.2 j j0 j1).1, ?_, by rw [low _ (by omega)]; exact (b19.2 j j0 j1).2.2⟩)
              show m25 84 (40 + j) = er_u (er_u (er_bp b) (6 * r1 + c1) (6 * r2 + c2)) (6 * r2 + c2) (6 * r1 + c1) j + 1
              rw [e25]
              by_cases hj : j = 6 * r2 + c2
              · rw [hj, er_st_s, er_u_s]
              · rw [er_st_k (by omega), er_u_n hj, e22]
                by_cases hj2 : j = 6 * r1 + c1
                · rw [hj2, er_st_s, er_u_s]
                · rw [er_st_k (by omega), er_u_n hj2]
                  exact (b19.2 j j0 j1).2.1
            refine sp_M_pairs hv' hb' ?_
            refine hQ m25 (er_npair (er_b_pair b (6 * r1 + c1) (6 * r2 + c2)), er_b_pair b (6 * r1 + c1) (6 * r2 + c2), er_push H b) ?_ (er_MI_new (m := m19) hb' hv' (h19.kp n25 (fun k => by omega) (by omega)) (t19.kp n25 (by omega) (fun k => by omega))) ((k19.wk (fun c k z => by unfold er_mf; omega)).tr (n25.wk (fun c k z => by unfold er_mf; omega)))
            unfold er_aPair
            rw [er_if_f (fun z => z.elim (fun z => z on1) (fun z => z.elim (fun z => z on2) (fun z => z hadj))), er_if_f (fun z => z.elim (fun z => z f1) (fun z => z f2))]
          · refine ⟨by decide, fun z => absurd rfl z, fun _ => hQ m (-2, b, H) ?_ h er_kp.rf⟩
            unfold er_aPair
            rw [er_if_f (fun z => z.elim (fun z => z on1) (fun z => z.elim (fun z => z on2) (fun z => z hadj))), er_if_t (Or.inr nf2)]
        · refine ⟨by decide, fun _ => hQ m (-2, b, H) ?_ h er_kp.rf, fun z => absurd rfl z⟩
          unfold er_aPair
          rw [er_if_f (fun z => z.elim (fun z => z on1) (fun z => z.elim (fun z => z on2) (fun z => z hadj))), er_if_t (Or.inl nf1)]
      · refine hQ m (-1, b, H) (er_if_t (Or.inr (Or.inr (fun z => ?_)))).symm h er_kp.rf
        unfold er_adj at z
        omega
    · exact ⟨by decide, fun z => absurd rfl z, fun _ => hQ m (-1, b, H) (er_if_t (Or.inr (Or.inl off2))).symm h er_kp.rf⟩
  · exact ⟨by decide, fun _ => hQ m (-1, b, H) (er_if_t (Or.inl off1)).symm h er_kp.rf, fun z => absurd rfl z⟩
theorem sp_M_append {v : Int} {Q : Int → er_M → Prop} (h : er_MI m b H n f) (i1 : er_in v) (hQ : ∀ m' a, a = er_aApp n f v → er_MI m' b H a.2.1 a.2.2 → er_kp er_mf m m' → Q a.1 m') : er_SI K mi_M_appendCharacter [.inr 83, .inl v] m Q := by
  obtain ⟨hb, hv, hh, ht⟩ := id h
  obtain ⟨t1, t2, t3⟩ := id ht
  refine vc_M_appendCharacter (sp_M_in i1 (by decide) (by decide) (fun h05 => ⟨by decide, fun _ => ⟨⟨by omega, by omega⟩, fun hlt => ⟨h05.1, by omega, by omega, by omega, fun m11 e11 m12 e12 => ?_⟩, fun he => ?_⟩, fun z => absurd z (by decide)⟩) (fun h05 => ⟨by decide, fun z => absurd rfl z, fun _ => hQ m (-1, n, f) (er_if_t (by omega)).symm h er_kp.rf⟩))
  · have k12 : er_kp (fun c k => c = 86 ∨ (c = 83 ∧ k = 4)) m m12 := by rw [e12, e11]; exact (er_kp.st (Or.inl rfl)).tr (er_kp.st (Or.inr ⟨rfl, rfl⟩))
    have e83 : m12 83 4 = (n : Int) + 1 := by rw [e12, er_st_s, e11, er_st_c (by decide), t2]
    rw [e83]
    refine hQ m12 ((n : Int) + 1, n + 1, er_u f n v) ?_ (er_MI_new (m := m) (hb.kp k12 (fun k => by omega)) hv (hh.kp k12 (fun k => by omega) (by omega)) ⟨by simp only; omega, by rw [e83]; simp, fun j j0 j1 => ?_⟩) (k12.wk (fun c k z => by unfold er_mf; omega))
    · unfold er_aApp
      rw [er_if_f (fun z => by omega), er_if_f (by omega)]
    · simp only
      simp only at j1
      rw [e12, er_st_c (by decide), e11, t2]
      by_cases hj : j = n
      · rw [hj, er_st_s, er_u_s]; exact ⟨rfl, h05⟩
      · rw [er_st_k hj, er_u_n hj]; exact t3 j j0 (by omega)
  · refine hQ m (-3, n, f) ?_ h er_kp.rf
    unfold er_aApp
    rw [er_if_f (fun z => by omega), er_if_t (by omega)]
theorem sp_M_clearText {Q : Int → er_M → Prop} (h : er_MI m b H n f) (hQ : ∀ m', er_MI m' b H 0 f → er_kp er_mf m m' → Q (n : Int) m') : er_SI K mi_M_clearText [.inr 83] m Q := by
  obtain ⟨hb, hv, hh, ht⟩ := id h
  refine vc_M_clearText (fun m1 e1 => ?_)
  rw [ht.2.1]
  have k1 : er_kp (fun c k => c = 83 ∧ k = 4) m m1 := by rw [e1]; exact er_kp.st ⟨rfl, rfl⟩
  exact hQ m1 (er_MI_new (m := m) (hb.kp k1 (fun k => by omega)) hv (hh.kp k1 (fun k => by omega) (by omega)) ⟨by omega, by rw [e1, er_st_s]; rfl, fun j j0 j1 => by omega⟩) (k1.wk (fun c k z => by unfold er_mf; omega))
theorem sp_M_undo {Q : Int → er_M → Prop} (h : er_MI m b H n f) (hQ : ∀ m' a, a = er_aUndo b H → er_MI m' a.2.1 a.2.2 n f → er_kp er_mf m m' → Q a.1 m') : er_SI K mi_M_undo [.inr 83] m Q := by
  obtain ⟨hb, hv, hh, ht⟩ := id h
  have hh1 := hh.1
  have hh2 := hh.2.1
  refine vc_M_undo ⟨⟨by omega, by omega⟩, fun hnz m3 e3 => ?_, fun hz => ?_⟩
  · have hne : H ≠ [] := fun z => by rw [z] at hh1; exact hnz hh1
    have hgl : H.getLastD b = H.getLast hne := by rw [List.getLastD_eq_getLast?, List.getLast?_eq_some_getLast hne]; rfl
    have hlp : 0 < H.length := List.length_pos_iff.mpr hne
    have hgi : H.getLastD b = H[H.length - 1]'(by omega) := by rw [hgl, List.getLast_eq_getElem]
    have hvl : er_BV (H.getLastD b) := by rw [hgl]; exact hh.2.2.1 _ (List.getLast_mem hne)
    have e2 : m3 83 2 = (H.length : Int) - 1 := by rw [e3, er_st_s, hh1]
    have k3 : er_kp (fun c k => c = 83 ∧ k = 2) m m3 := by rw [e3]; exact er_kp.st ⟨rfl, rfl⟩
    have loop : ∀ (d x : Nat) (m1 : er_M), x + d = 112 → (∀ k : Int, 0 ≤ k → k < x → m1 84 k = er_row (H.getLastD b) k) → er_kp (fun c _ => c = 84) m3 m1 → wp_M_undo_22 K (x : Int) m1 Q := by
      intro d
      induction d with
      | zero =>
        intro x m1 hx hr k1
        have e21 : m1 83 2 = (H.length : Int) - 1 := by rw [k1 83 2 (by decide)]; exact e2
        refine vc_M_undo_22 ⟨⟨by omega, by omega⟩, fun _ => ?_, fun hlt => by omega⟩
        rw [e21]
        have kk : er_kp (fun c k => c = 84 ∨ (c = 83 ∧ k = 2)) m m1 := (k3.wk (fun c k z => Or.inr z)).tr (k1.wk (fun c k z => Or.inl z))
        refine hQ m1 ((H.length : Int) - 1, H.getLastD b, H.dropLast) (er_if_f hne).symm (er_MI_new (m := m) (er_RB_of hvl (fun k k0 k1' => hr k k0 (by omega))) hvl ⟨by rw [e21, List.length_dropLast]; omega, by rw [List.length_dropLast]; omega, fun y hy => hh.2.2.1 y (List.dropLast_subset _ hy), fun j hj k k0 k1' => ?_⟩ (ht.kp kk (by omega) (fun k => by omega))) (kk.wk (fun c k z => by unfold er_mf; omega))
        rw [List.length_dropLast] at hj
        rw [kk 85 _ (by omega), List.getElem_dropLast]
        exact hh.2.2.2 j (by omega) k k0 k1'
      | succ d ih =>
        intro x m1 hx hr k1
        have e21 : m1 83 2 = (H.length : Int) - 1 := by rw [k1 83 2 (by decide)]; exact e2
        refine vc_M_undo_22 ⟨⟨by omega, by omega⟩, fun hle => by omega, fun _ => ?_⟩
        rw [e21]
        refine ⟨by omega, by omega, by omega, by omega, fun m7 e7 => ?_⟩
        refine ih (x + 1) m7 (by omega) (fun k k0 k1' => ?_) (k1.tr (by rw [e7]; exact er_kp.st rfl))
        rw [e7]
        by_cases hk : k = x
        · rw [hk, er_st_s, k1 85 _ (by omega), k3 85 _ (by omega), hgi, show (H.length : Int) - 1 = ((H.length - 1 : Nat) : Int) by omega]
          exact hh.2.2.2 (H.length - 1) (by omega) x (by omega) (by omega)
        · rw [er_st_k hk]; exact hr k k0 (by omega)
    exact loop 112 0 m3 rfl (fun k k0 k1 => by omega) er_kp.rf
  · have hnil : H = [] := List.eq_nil_of_length_eq_zero (by omega)
    exact hQ m (-2, b, H) (er_if_t hnil).symm h er_kp.rf
theorem sp_M_loadGrid {Q : Int → er_M → Prop} (h : er_MI m b H n f) (hQ : ∀ m' a, a = er_aLoad b H n f → er_MI m' a.2.1 a.2.2.1 a.2.2.2 f → er_kp er_mf m m' → Q a.1 m') : er_SI K mi_M_loadGrid [.inr 83] m Q := by
  obtain ⟨hb, hv, hh, ht⟩ := id h
  have hn60 := ht.1
  refine vc_M_loadGrid (sp_M_readGrid ht (fun m1 r st hrd hpj hgr k1 => ?_))
  have hok := er_rd_ok f n 0 er_st0
  have hc1 : er_MI m1 b H n f := h.kp k1 (fun c k a z => by unfold er_HM; omega) (by unfold er_HM; omega) (by unfold er_HM; omega)
  have kc1 : er_kp er_mf m m1 := k1.wk (fun c k z => by unfold er_HM at z; unfold er_mf; omega)
  unfold er_aLoad at hQ
  rw [hrd] at hok hQ
  simp only at hok hQ
  by_cases hr : r = -1
  · rw [if_pos hr]
    refine ⟨by decide, fun _ => ?_, fun z => absurd rfl z⟩
    obtain ⟨p1, p2⟩ := hok.1 hr
    have hv' := er_BV_grid hv hpj p1 p2
    refine sp_M_begin hc1 (fun m5 b5 h5 t5 k5 m6 e6 m7 e7 => ?_)
    have g6 : m5 83 6 = (st.1 : Int) := by rw [k5 83 6 (by omega)]; exact hgr.1
    have g7 : m5 83 7 = (st.2.1 : Int) := by rw [k5 83 7 (by omega)]; exact hgr.2.1 p1
    have g87 : ∀ j : Int, 0 ≤ j → j < 36 → m5 87 j = st.2.2.2 j := fun j j0 j1 => by rw [k5 87 j (by omega)]; exact hgr.2.2.2 j j0 j1
    have e70 : m7 84 0 = (st.1 : Int) := by rw [e7, er_st_k (by decide), e6, er_st_s, g6]
    have e71 : m7 84 1 = (st.2.1 : Int) := by rw [e7, er_st_s, e6, er_st_c (by decide), g7]
    have k7 : er_kp (fun c k => c = 84 ∧ k < 2) m5 m7 := by rw [e7, e6]; exact (er_kp.st ⟨rfl, by decide⟩).tr (er_kp.st ⟨rfl, by decide⟩)
    have loop : ∀ (d x : Nat) (m8 : er_M), x + d = 36 → (∀ j : Int, 0 ≤ j → j < x → m8 84 (4 + j) = st.2.2.2 j ∧ m8 84 (40 + j) = 0 ∧ m8 84 (76 + j) = 0) → er_kp (fun c k => c = 84 ∧ 4 ≤ k) m7 m8 → wp_M_loadGrid_42 K (x : Int) m8 Q := by
      intro d
      induction d with
      | zero =>
        intro x m8 hx hr8 k8
        refine vc_M_loadGrid_42 ⟨⟨by omega, by omega⟩, fun _ m9 e9 => ?_, fun hlt => by omega⟩
        have k9 : er_kp (fun c k => c = 83 ∧ k = 4) m8 m9 := by rw [e9]; exact er_kp.st ⟨rfl, rfl⟩
        have e84 : ∀ k, m9 84 k = m8 84 k := fun k => k9 84 k (by omega)
        have hb' : er_RB m9 (er_b_grid b st) := ⟨⟨by rw [e84, k8 84 0 (by omega)]; exact e70, by rw [e84, k8 84 1 (by omega)]; exact e71, by rw [e84, k8 84 2 (by omega), k7 84 2 (by omega)]; exact b5.1.2.2.1, by rw [e84, k8 84 3 (by omega), k7 84 3 (by omega)]; exact b5.1.2.2.2.1, hv'.1, hv'.2.1, hv'.2.2.1, hv'.2.2.2.1, hv'.2.2.2.2.1, hv'.2.2.2.2.2.1, hv'.2.2.2.2.2.2.1, hv'.2.2.2.2.2.2.2.1⟩, fun j j0 j1 => by
          rw [e84, e84, e84]
          obtain ⟨a1, a2, a3⟩ := hr8 j j0 (by omega)
          exact ⟨a1, a2, a3⟩⟩
        have all : er_kp (fun c k => c = 84 ∨ (c = 83 ∧ k = 4)) m5 m9 := (k7.wk (fun c k z => by omega)).tr ((k8.wk (fun c k z => by omega)).tr (k9.wk (fun c k z => by omega)))
        refine sp_M_signals hv' hb' ?_
        refine hQ m9 (er_sig (er_b_grid b st), er_b_grid b st, er_push H b, 0) (er_if_t hr).symm (er_MI_new (m := m5) hb' hv' (h5.kp all (fun k => by omega) (by omega)) ⟨by simp only; omega, by rw [e9, er_st_s]; rfl, fun j j0 j1 => by simp only at j1; omega⟩) (kc1.tr ((k5.wk (fun c k z => by unfold er_mf; omega)).tr (all.wk (fun c k z => by unfold er_mf; omega))))
      | succ d ih =>
        intro x m8 hx hr8 k8
        have e87 : m8 87 (x : Int) = st.2.2.2 x := by rw [k8 87 _ (by omega), k7 87 _ (by omega)]; exact g87 x (by omega) (by omega)
        refine vc_M_loadGrid_42 ⟨⟨by omega, by omega⟩, fun hle => by omega, fun _ => ⟨by omega, by omega, by omega, by omega, fun m10 e10 => ⟨by omega, by omega, fun m13 e13 => ⟨by omega, by omega, fun m16 e16 => ?_⟩⟩⟩⟩
        refine ih (x + 1) m16 (by omega) (fun j j0 j1 => ?_) (k8.tr (by rw [e16, e13, e10]; exact ((er_kp.st ⟨rfl, by omega⟩).tr (er_kp.st ⟨rfl, by omega⟩)).tr (er_kp.st ⟨rfl, by omega⟩)))
        rw [e16, e13, e10]
        by_cases hj : j = x
        · refine ⟨?_, ?_, ?_⟩
          · rw [er_st_k (by omega), er_st_k (by omega), hj, er_st_s, e87]
          · rw [er_st_k (by omega), hj, er_st_s]
          · rw [hj, er_st_s]
        · obtain ⟨a1, a2, a3⟩ := hr8 j j0 (by omega)
          refine ⟨?_, ?_, ?_⟩
          · rw [er_st_k (by omega), er_st_k (by omega), er_st_k (by omega)]; exact a1
          · rw [er_st_k (by omega), er_st_k (by omega), er_st_k (by omega)]; exact a2
          · rw [er_st_k (by omega), er_st_k (by omega), er_st_k (by omega)]; exact a3
    exact loop 36 0 m7 rfl (fun j j0 j1 => by omega) er_kp.rf
  · rw [if_neg hr]
    exact ⟨by rcases hok.2 with z | z <;> exact ⟨by omega, by omega⟩, fun z => by rcases hok.2 with y | y <;> omega, fun _ => hQ m1 (-10 - r, b, H, n) (er_if_f hr).symm hc1 kc1⟩
end ERMA
