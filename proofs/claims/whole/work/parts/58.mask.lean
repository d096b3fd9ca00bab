/-! what is asked of the reference -/
noncomputable def er_Psel (b : er_Bo) (x : Nat) : List Nat := (List.range x).filter (fun p => decide (er_bs b (p : Int) = 1))
noncomputable def er_Pthr (b : er_Bo) (x : Nat) : List Nat := (List.range x).filter (fun p => decide (er_bk b (p : Int) = 1))
noncomputable def er_Msel (b : er_Bo) : List er_Ed := er_LM (er_bR b) (er_bC b) (er_bh b) (er_bt b) (fun j => er_ic (er_bk b j = 0)) 1 (er_Psel b 36)
noncomputable def er_Mthr (b : er_Bo) : List er_Ed := er_LM (er_bR b) (er_bC b) (er_bh b) (er_bt b) (fun j => er_ic (er_bk b j ≠ 2)) 100000 (er_Pthr b 36)
theorem er_filt_succ (p : Nat → Bool) (x : Nat) : (List.range (x + 1)).filter p = (List.range x).filter p ++ (if p x then [x] else []) := by
  rw [List.range_succ, List.filter_append, List.filter_cons]
  rfl
theorem er_filt_len (p : Nat → Bool) (x : Nat) : ((List.range x).filter p).length ≤ x := by
  have := List.length_filter_le p (List.range x)
  rwa [List.length_range] at this
theorem er_LM_app (R C : Nat) (ch tl : Int) (op : Int → Int) (w : Int) (P Q : List Nat) : er_LM R C ch tl op w (P ++ Q) = er_LM R C ch tl op w P ++ er_mp w Q := by
  unfold er_LM
  rw [er_mp_app, List.append_assoc, List.append_assoc]
theorem er_LM_len {R C : Nat} (hR : R ≤ 6) (hC : C ≤ 6) (ch tl : Int) (op : Int → Int) (w : Int) (P : List Nat) : (er_LM R C ch tl op w P).length ≤ 193 + 5 * P.length := by
  unfold er_LM
  rw [List.length_append, List.length_append, er_mp_len]
  have h1 := er_tiles_len hR hC tl 100000
  have h2 := er_chans_len hR hC ch op
  omega
/-- the class's flow and the reference's -/
theorem er_sel_same {b : er_Bo} {r1 r2 : Int → Int} {x1 x2 : Int} (hv : er_BV b) (h1 : er_max (er_Lsel b) r1 x1) (h2 : er_max (er_Msel b) r2 x2) : x1 = x2 ∧ ∀ v, er_near (er_Lsel b) r1 v ↔ er_near (er_Msel b) r2 v := by
  refine er_cmp (w1 := 1) (w2 := 1) (P := er_Psel b 36) (er_BO_sel hv (fun j => er_bk b j = 0)) (fun p hp => ?_) (List.Pairwise.filter _ List.nodup_range) (fun p hp => ?_) (Or.inl ⟨rfl, rfl⟩) h1 h2
  · obtain ⟨z1, z2⟩ := List.mem_filter.mp hp
    have hp36 := List.mem_range.mp z1
    rw [decide_eq_true_eq] at z2
    have := hv.2.2.2.2.2.2.2.2.2.2.2 (p : Int) (by omega) (by omega)
    exact ⟨hp36, by omega⟩
  · rw [Int.one_mul]
    refine er_ic_iff ?_
    unfold er_Psel
    rw [List.mem_filter, List.mem_range, decide_eq_true_eq]
    exact ⟨fun z => ⟨hp, z⟩, fun z => z.2⟩
theorem er_thr_same {b : er_Bo} {r1 r2 : Int → Int} {x1 x2 : Int} (hv : er_BV b) (h1 : er_max (er_Lthr b) r1 x1) (h2 : er_max (er_Mthr b) r2 x2) : x1 = x2 := by
  refine (er_cmp (w1 := 1000000) (w2 := 100000) (P := er_Pthr b 36) (er_BO_sel hv (fun j => er_bk b j ≠ 2)) (fun p hp => ?_) (List.Pairwise.filter _ List.nodup_range) (fun p hp => ?_) (Or.inr ⟨rfl, rfl⟩) h1 h2).1
  · obtain ⟨z1, z2⟩ := List.mem_filter.mp hp
    rw [decide_eq_true_eq] at z2
    exact ⟨List.mem_range.mp z1, z2⟩
  · refine congrArg (1000000 * ·) (er_ic_iff ?_)
    unfold er_Pthr
    rw [List.mem_filter, List.mem_range, decide_eq_true_eq]
    exact ⟨fun z => ⟨hp, z⟩, fun z => z.2⟩
theorem er_MF_0 {m : er_M} {b : er_Bo} {op : Int → Int} (hv : er_BV b) (w : Int) (hop : ∀ j : Int, 0 ≤ j → j < 36 → m 93 j = op j) {m' : er_M} (h : er_MF m' (er_tiles (er_bR b) (er_bC b) (er_bt b) 100000 ++ er_chans (er_bR b) (er_bC b) (er_bh b) (m 93)) 0) : er_MF m' (er_LM (er_bR b) (er_bC b) (er_bh b) (er_bt b) op w []) 0 := by
  rw [er_chans_congr hv.2.1 hv.2.2.2.1 hop] at h
  unfold er_LM
  rw [show er_mp w [] = [] from rfl, List.append_nil]
  exact h
section ERMK
variable {K : er_K} {m : er_M} {b : er_Bo} {H : List er_Bo} {n : Nat} {f : Int → Int}
theorem er_MI.kV {F : Nat → Int → Prop} {m' : er_M} (h : er_MI m b H n f) (hk : er_kp F m m') (hF : ∀ c k, F c k → 88 ≤ c ∨ (c = 83 ∧ (k = 13 ∨ k = 20))) : er_MI m' b H n f :=
  h.kp hk (fun c k a z w => by have := hF c k w; omega) (fun w => by have := hF _ _ w; omega) (fun w => by have := hF _ _ w; omega)
theorem sp_M_escape {Q : Int → er_M → Prop} (h : er_MI m b H n f) (hQ : ∀ m' x rm, er_max (er_Msel b) rm x → er_nz m' → (∀ v : Int, 0 ≤ v → v < 136 → (er_nk m' v ↔ er_near (er_Msel b) rm v)) → er_MI m' b H n f → er_kp er_mf m m' → Q x m') : er_SI K mi_M_escape [.inr 83] m Q := by
  obtain ⟨hb, hv, hh, ht⟩ := id h
  have pins : ∀ (d x : Nat) (m1 : er_M), x + d = 36 → er_MF m1 (er_LM (er_bR b) (er_bC b) (er_bh b) (er_bt b) (fun j => er_ic (er_bk b j = 0)) 1 (er_Psel b x)) 0 → er_kp (fun c k => (88 ≤ c ∧ c ≤ 93) ∨ (c = 83 ∧ k = 13)) m m1 → wp_M_escape_10 K (x : Int) m1 Q := by
    intro d
    induction d with
    | zero =>
      intro x m1 hx h1 k1
      have hx36 : x = 36 := by omega
      subst hx36
      refine vc_M_escape_10 ⟨⟨by omega, by omega⟩, fun _ => ?_, fun hlt => by omega⟩
      refine sp_M_augmentAll h1 (Int.le_refl 0) (fun rm hf => er_LM_bound hv.2.1 hv.2.2.2.1 hv.2.2.2.2.2.2.1 hv.2.2.2.2.2.2.2.1 1 (fun q hq => List.mem_range.mp (List.mem_filter.mp hq).1) hf) (fun m' y a1 a2 a3 a4 a5 a6 => ?_)
      have kk : er_kp (fun c k => (88 ≤ c ∧ c ≤ 96) ∨ (c = 83 ∧ k = 13)) m m' := (k1.wk (fun c k z => by omega)).tr (a1.wk (fun c k z => by unfold er_MQ at z; omega))
      rw [Int.sub_zero]
      exact hQ m' y _ a3 a2 a6 (h.kV kk (fun c k z => by omega)) (kk.wk (fun c k z => by unfold er_mf; omega))
    | succ d ih =>
      intro x m1 hx h1 k1
      have h5 : m1 84 (76 + (x : Int)) = er_bs b (x : Int) := by rw [k1 84 _ (by omega)]; exact (hb.2 x (by omega) (by omega)).2.2
      have hsd := hv.2.2.2.2.2.2.2.2.2.2.2 (x : Int) (by omega) (by omega)
      have e := er_filt_succ (fun p => decide (er_bs b (p : Int) = 1)) x
      refine vc_M_escape_10 ⟨⟨by omega, by omega⟩, fun hle => by omega, fun _ => ⟨by omega, by omega, ⟨by omega, by omega⟩, fun hz => ?_, fun hnz => ?_⟩⟩
      · rw [if_neg (by rw [decide_eq_true_eq]; omega), List.append_nil] at e
        refine ih (x + 1) m1 (by omega) ?_ k1
        unfold er_Psel at h1 ⊢
        rw [e]
        exact h1
      · rw [if_pos (by rw [decide_eq_true_eq]; omega)] at e
        have hl := er_LM_len hv.2.1 hv.2.2.2.1 (er_bh b) (er_bt b) (fun j => er_ic (er_bk b j = 0)) 1 (er_Psel b x)
        have hl2 : (er_Psel b x).length ≤ x := er_filt_len _ x
        refine sp_M_layPin h1 (by omega) (by omega) ⟨by decide, by decide⟩ (fun m9 h9 k9 _ => ?_)
        refine ih (x + 1) m9 (by omega) ?_ (k1.tr (k9.wk (fun c k z => by unfold er_MB at z; omega)))
        rw [← er_LM_app] at h9
        unfold er_Psel at h9 ⊢
        rw [e]
        exact h9
  have opens : ∀ (d x : Nat) (m1 : er_M) (Q' : er_M → Prop), (∀ m', (∀ j : Int, 0 ≤ j → j < 36 → m' 93 j = er_ic (er_bk b j = 0)) → er_kp (fun c _ => c = 93) m m' → Q' m') → x + d = 36 → (∀ j : Int, 0 ≤ j → j < x → m1 93 j = er_ic (er_bk b j = 0)) → er_kp (fun c _ => c = 93) m m1 → wp_M_openNone_2 K (x : Int) m1 Q' := by
    intro d
    induction d with
    | zero =>
      intro x m1 Q' hQ' hx hop kk
      exact vc_M_openNone_2 ⟨⟨by omega, by omega⟩, fun _ => hQ' m1 (fun j j0 j1 => hop j j0 (by omega)) kk, fun hlt => by omega⟩
    | succ d ih =>
      intro x m1 Q' hQ' hx hop kk
      have h3 : m1 84 (4 + (x : Int)) = er_bk b (x : Int) := by rw [kk 84 _ (by omega)]; exact (hb.2 x (by omega) (by omega)).1
      have hkd := hv.2.2.2.2.2.2.2.2.1 (x : Int) (by omega) (by omega)
      have step : ∀ v : Int, v = er_ic (er_bk b (x : Int) = 0) → ∀ m8 : er_M, m8 = er_st m1 93 x v → wp_M_openNone_2 K ((x : Int) + 1) m8 Q' := by
        intro v ev m8 e8
        refine ih (x + 1) m8 Q' hQ' (by omega) (fun j j0 j1 => ?_) (kk.tr (by rw [e8]; exact er_kp.st rfl))
        rw [e8]
        by_cases hj : j = x
        · rw [hj, er_st_s, ev]
        · rw [er_st_k hj]; exact hop j j0 (by omega)
      exact vc_M_openNone_2 ⟨⟨by omega, by omega⟩, fun hle => by omega, fun _ => ⟨by omega, by omega, ⟨by omega, by omega⟩, fun hz => ⟨by omega, by omega, step 0 (er_ic_f (by omega)).symm⟩, fun hz => ⟨by omega, by omega, step 1 (er_ic_t (by omega)).symm⟩⟩⟩
  refine vc_M_escape (vc_M_openNone (opens 36 0 m _ (fun m1 hop k1 => ?_) rfl (fun j j0 j1 => by omega) er_kp.rf))
  refine sp_M_lay (hb.kp k1 (fun k => by omega)).1 (fun j j0 j1 => by rw [hop j j0 j1]; exact er_ic_01 _) (fun m2 h2 => ?_)
  exact pins 36 0 m2 rfl (er_MF_0 hv 1 hop h2.1) ((k1.wk (fun c k z => by omega)).tr (h2.2.wk (fun c k z => by unfold er_MB at z; omega)))
theorem sp_M_most {Q : Int → er_M → Prop} (h : er_MI m b H n f) (hQ : ∀ m' x rm, er_max (er_Mthr b) rm x → 0 ≤ x → x ≤ 216 → er_MI m' b H n f → er_kp er_mf m m' → Q x m') : er_SI K mi_M_most [.inr 83] m Q := by
  obtain ⟨hb, hv, hh, ht⟩ := id h
  have pins : ∀ (d x : Nat) (m1 : er_M), x + d = 36 → er_MF m1 (er_LM (er_bR b) (er_bC b) (er_bh b) (er_bt b) (fun j => er_ic (er_bk b j ≠ 2)) 100000 (er_Pthr b x)) 0 → er_kp (fun c k => (88 ≤ c ∧ c ≤ 93) ∨ (c = 83 ∧ k = 13)) m m1 → wp_M_most_43 K (x : Int) m1 Q := by
    intro d
    induction d with
    | zero =>
      intro x m1 hx h1 k1
      have hx36 : x = 36 := by omega
      subst hx36
      refine vc_M_most_43 ⟨⟨by omega, by omega⟩, fun _ => ?_, fun hlt => by omega⟩
      refine sp_M_augmentAll h1 (Int.le_refl 0) (fun rm hf => er_LM_bound hv.2.1 hv.2.2.2.1 hv.2.2.2.2.2.2.1 hv.2.2.2.2.2.2.2.1 100000 (fun q hq => List.mem_range.mp (List.mem_filter.mp hq).1) hf) (fun m' y a1 a2 a3 a4 a5 a6 => ?_)
      have kk : er_kp (fun c k => (88 ≤ c ∧ c ≤ 96) ∨ (c = 83 ∧ k = 13)) m m' := (k1.wk (fun c k z => by omega)).tr (a1.wk (fun c k z => by unfold er_MQ at z; omega))
      rw [Int.sub_zero]
      exact hQ m' y _ a3 a4 a5 (h.kV kk (fun c k z => by omega)) (kk.wk (fun c k z => by unfold er_mf; omega))
    | succ d ih =>
      intro x m1 hx h1 k1
      have h5 : m1 84 (4 + (x : Int)) = er_bk b (x : Int) := by rw [k1 84 _ (by omega)]; exact (hb.2 x (by omega) (by omega)).1
      have hkd := hv.2.2.2.2.2.2.2.2.1 (x : Int) (by omega) (by omega)
      have e := er_filt_succ (fun p => decide (er_bk b (p : Int) = 1)) x
      refine vc_M_most_43 ⟨⟨by omega, by omega⟩, fun hle => by omega, fun _ => ⟨by omega, by omega, ⟨by omega, by omega⟩, fun hz => ?_, fun hnz => ?_⟩⟩
      · rw [if_neg (by rw [decide_eq_true_eq]; omega), List.append_nil] at e
        refine ih (x + 1) m1 (by omega) ?_ k1
        unfold er_Pthr at h1 ⊢
        rw [e]
        exact h1
      · rw [if_pos (by rw [decide_eq_true_eq]; omega)] at e
        have hl := er_LM_len hv.2.1 hv.2.2.2.1 (er_bh b) (er_bt b) (fun j => er_ic (er_bk b j ≠ 2)) 100000 (er_Pthr b x)
        have hl2 : (er_Pthr b x).length ≤ x := er_filt_len _ x
        refine sp_M_layPin h1 (by omega) (by omega) ⟨by decide, by decide⟩ (fun m9 h9 k9 _ => ?_)
        refine ih (x + 1) m9 (by omega) ?_ (k1.tr (k9.wk (fun c k z => by unfold er_MB at z; omega)))
        rw [← er_LM_app] at h9
        unfold er_Pthr at h9 ⊢
        rw [e]
        exact h9
  have opens : ∀ (d x : Nat) (m1 : er_M), x + d = 36 → (∀ j : Int, 0 ≤ j → j < x → m1 93 j = er_ic (er_bk b j ≠ 2)) → er_kp (fun c _ => c = 93) m m1 → wp_M_most_2 K (x : Int) m1 Q := by
    intro d
    induction d with
    | zero =>
      intro x m1 hx hop kk
      have hop' : ∀ j : Int, 0 ≤ j → j < 36 → m1 93 j = er_ic (er_bk b j ≠ 2) := fun j j0 j1 => hop j j0 (by omega)
      refine vc_M_most_2 ⟨⟨by omega, by omega⟩, fun _ => ?_, fun hlt => by omega⟩
      refine sp_M_lay (hb.kp kk (fun k => by omega)).1 (fun j j0 j1 => by rw [hop' j j0 j1]; exact er_ic_01 _) (fun m2 h2 => ?_)
      exact pins 36 0 m2 rfl (er_MF_0 hv 100000 hop' h2.1) ((kk.wk (fun c k z => by omega)).tr (h2.2.wk (fun c k z => by unfold er_MB at z; omega)))
    | succ d ih =>
      intro x m1 hx hop kk
      have h3 : m1 84 (4 + (x : Int)) = er_bk b (x : Int) := by rw [kk 84 _ (by omega)]; exact (hb.2 x (by omega) (by omega)).1
      have hkd := hv.2.2.2.2.2.2.2.2.1 (x : Int) (by omega) (by omega)
      have step : ∀ v : Int, v = er_ic (er_bk b (x : Int) ≠ 2) → ∀ m8 : er_M, m8 = er_st m1 93 x v → wp_M_most_2 K ((x : Int) + 1) m8 Q := by
        intro v ev m8 e8
        refine ih (x + 1) m8 (by omega) (fun j j0 j1 => ?_) (kk.tr (by rw [e8]; exact er_kp.st rfl))
        rw [e8]
        by_cases hj : j = x
        · rw [hj, er_st_s, ev]
        · rw [er_st_k hj]; exact hop j j0 (by omega)
      exact vc_M_most_2 ⟨⟨by omega, by omega⟩, fun hle => by omega, fun _ => ⟨by omega, by omega, ⟨by omega, by omega⟩, fun hz => ⟨by omega, by omega, step 0 (er_ic_f (by omega)).symm⟩, fun hz => ⟨by omega, by omega, step 1 (er_ic_t (by omega)).symm⟩⟩⟩
  exact vc_M_most (opens 36 0 m rfl (fun j j0 j1 => by omega) er_kp.rf)
theorem sp_M_rows {Q : Int → er_M → Prop} (h : er_MI m b H n f) (hQ : Q (er_bR b : Int) m) : er_SI K mi_M_rows [.inr 83] m Q := vc_M_rows (by rw [h.1.1.1]; exact hQ)
theorem sp_M_columns {Q : Int → er_M → Prop} (h : er_MI m b H n f) (hQ : Q (er_bC b : Int) m) : er_SI K mi_M_columns [.inr 83] m Q := vc_M_columns (by rw [h.1.1.2.1]; exact hQ)
theorem sp_M_signalCount {Q : Int → er_M → Prop} (h : er_MI m b H n f) (hQ : Q (er_sig b) m) : er_SI K mi_M_signalCount [.inr 83] m Q := vc_M_signalCount (sp_M_signals h.2.1 h.1 hQ)
theorem sp_M_kindAt {r c : Int} {Q : Int → er_M → Prop} (h : er_MI m b H n f) (i1 : er_in r) (i2 : er_in c) (hQ : Q (er_qKind b r c) m) : er_SI K mi_M_kindAt [.inr 83, .inl r, .inl c] m Q := by
  obtain ⟨hb, hv, hh, ht⟩ := id h
  unfold er_qKind at hQ
  refine vc_M_kindAt (sp_M_isPosition hv hb i1 i2 (fun hon => ⟨by decide, fun z => absurd z (by decide), fun _ => ?_⟩) (fun hoff => ⟨by decide, fun _ => ?_, fun z => absurd rfl z⟩))
  · obtain ⟨x0, x1, x2, x3⟩ := er_obd_pl hv hon
    rw [er_if_f (fun z => z hon)] at hQ
    rw [show 4 + 6 * r + c = 4 + (6 * r + c) by omega, (hb.2 _ x0 x1).1]
    exact ⟨by omega, by omega, hQ⟩
  · rw [er_if_t hoff] at hQ; exact hQ
theorem sp_M_partnerOf {r c : Int} {Q : Int → er_M → Prop} (h : er_MI m b H n f) (i1 : er_in r) (i2 : er_in c) (hQ : Q (er_qPart b r c) m) : er_SI K mi_M_partnerOf [.inr 83, .inl r, .inl c] m Q := by
  obtain ⟨hb, hv, hh, ht⟩ := id h
  unfold er_qPart at hQ
  refine vc_M_partnerOf (sp_M_isPosition hv hb i1 i2 (fun hon => ⟨by decide, fun _ => ?_, fun z => absurd z (by decide)⟩) (fun hoff => ⟨by decide, fun z => absurd rfl z, fun _ => ?_⟩))
  · obtain ⟨x0, x1, x2, x3⟩ := er_obd_pl hv hon
    have hpd := hv.2.2.2.2.2.2.2.2.2.2.1 _ x0 x1
    rw [er_if_f (fun z => z hon)] at hQ
    rw [show 40 + 6 * r + c = 40 + (6 * r + c) by omega, (hb.2 _ x0 x1).2.1, show er_bp b (6 * r + c) + 1 - 1 = er_bp b (6 * r + c) by omega]
    refine ⟨by omega, by omega, by rcases hpd with z | z <;> exact ⟨by omega, by omega⟩, fun hge => ?_, fun hlt => ?_⟩
    · rw [er_if_f (by omega)] at hQ
      exact ⟨hge, by rcases hpd with z | z <;> omega, hQ⟩
    · rw [er_if_t (by rcases hpd with z | z <;> omega)] at hQ; exact hQ
  · rw [er_if_t hoff] at hQ; exact hQ
theorem sp_M_escapeCount {Q : Int → er_M → Prop} (h : er_MI m b H n f) (hQ : ∀ m' x rm, er_max (er_Msel b) rm x → er_MI m' b H n f → er_kp er_mf m m' → Q x m') : er_SI K mi_M_escapeCount [.inr 83] m Q :=
  vc_M_escapeCount (sp_M_escape h (fun m' x rm h1 h2 h3 h4 h5 => hQ m' x rm h1 h4 h5))
theorem sp_M_tileSide {p q : Int} {Q : Int → er_M → Prop} (h : er_MI m b H n f) (i1 : er_in p) (i2 : er_in q) (hQ : ∀ m' v, ((¬ (0 ≤ p ∧ p ≤ er_bR b ∧ 0 ≤ q ∧ q ≤ er_bC b) ∧ v = -1) ∨ ((0 ≤ p ∧ p ≤ er_bR b ∧ 0 ≤ q ∧ q ≤ er_bC b) ∧ ∃ x rm, er_max (er_Msel b) rm x ∧ er_sd (er_near (er_Msel b) rm) (7 * p + q) v)) → er_MI m' b H n f → er_kp er_mf m m' → Q v m') : er_SI K mi_M_tileSide [.inr 83, .inl p, .inl q] m Q := by
  obtain ⟨hb, hv, hh, ht⟩ := id h
  have g0 := hb.1.1
  have g1 := hb.1.2.1
  have hR := hv.2.1
  have hC := hv.2.2.2.1
  refine vc_M_tileSide (sp_M_in i1 (by decide) ⟨by omega, by omega⟩ (fun a => ⟨by decide, fun z => absurd z (by decide), fun _ => sp_M_in i2 (by decide) ⟨by omega, by omega⟩ (fun a2 => ⟨by decide, fun _ => ?_, fun z => absurd z (by decide)⟩) (fun a2 => ⟨by decide, fun z => absurd rfl z, fun _ => hQ m _ (Or.inl ⟨fun w => a2 (by omega), rfl⟩) h er_kp.rf⟩)⟩) (fun a => ⟨by decide, fun _ => hQ m _ (Or.inl ⟨fun w => a (by omega), rfl⟩) h er_kp.rf, fun z => absurd rfl z⟩))
  refine sp_M_escape h (fun m9 x rm h1 h2 h3 h4 h5 => vc_M_tile ?_)
  have z38 := h2 (38 + (7 * p + q)) (by omega) (by omega)
  have z87 := h2 (87 + (7 * p + q)) (by omega) (by omega)
  have n38 := h3 (38 + (7 * p + q)) (by omega) (by omega)
  have n87 := h3 (87 + (7 * p + q)) (by omega) (by omega)
  unfold er_nk at n38 n87
  have out : ∀ v : Int, er_sd (er_near (er_Msel b) rm) (7 * p + q) v → Q v m9 := fun v hvv => hQ m9 v (Or.inr ⟨⟨by omega, by omega, by omega, by omega⟩, x, rm, h1, hvv⟩) h4 h5
  refine ⟨by omega, by omega, ⟨by omega, by omega⟩, fun c1 => ⟨by omega, by omega, ⟨by omega, by omega⟩, fun c2 => ?_, fun c2 => ?_⟩, fun c1 => ?_⟩
  · exact out 1 (Or.inr (Or.inr ⟨n38.mp (by omega), fun w => by have := n87.mpr w; omega, rfl⟩))
  · exact out 0 (Or.inr (Or.inl ⟨n38.mp (by omega), n87.mp (by omega), rfl⟩))
  · exact out 2 (Or.inl ⟨fun w => by have := n38.mpr w; omega, rfl⟩)
theorem sp_M_isCut {a c : Int} {Q : Int → er_M → Prop} (hz : er_nz m) (a0 : 0 ≤ a) (a1 : a < 49) (b0 : 0 ≤ c) (b1 : c < 49) (hQ : Q (er_cc (er_nk m) a c) m) : er_SI K mi_M_isCut [.inr 83, .inl a, .inl c] m Q := by
  have z1 := hz (87 + a) (by omega) (by omega)
  have z2 := hz (38 + c) (by omega) (by omega)
  have z3 := hz (87 + c) (by omega) (by omega)
  have z4 := hz (38 + a) (by omega) (by omega)
  unfold er_cc er_nk at hQ
  have rest : ¬ (m 96 (87 + a) = 1 ∧ ¬ m 96 (38 + c) = 1) → wp_M_isCut_24 K a c m Q := by
    intro hno
    refine vc_M_isCut_24 ⟨by omega, by omega, ⟨by omega, by omega⟩, fun c1 => ?_, fun c1 => ⟨by omega, by omega, ⟨by omega, by omega⟩, fun c2 => ?_, fun c2 => ?_⟩⟩
    · rw [er_ic_f (fun w => by omega)] at hQ; exact hQ
    · rw [er_ic_f (fun w => by omega)] at hQ; exact hQ
    · rw [er_ic_t (by omega)] at hQ; exact hQ
  refine vc_M_isCut ⟨by omega, by omega, ⟨by omega, by omega⟩, fun c1 => rest (by omega), fun c1 => ⟨by omega, by omega, ⟨by omega, by omega⟩, fun c2 => ?_, fun c2 => rest (by omega)⟩⟩
  rw [er_ic_t (by omega)] at hQ; exact hQ
theorem sp_M_cutChannels {Q : Int → er_M → Prop} (h : er_MI m b H n f) (hQ : ∀ m' x rm, er_max (er_Msel b) rm x → er_MI m' b H n f → er_kp er_mf m m' → Q (er_ccs (er_near (er_Msel b) rm) (er_bR b) (er_bC b)) m') : er_SI K mi_M_cutChannels [.inr 83] m Q := by
  refine vc_M_cutChannels (sp_M_escape h (fun m9 x rm h1 h2 h3 h4 h5 => ?_))
  obtain ⟨hb, hv, hh, ht⟩ := id h4
  have g0 := hb.1.1
  have g1 := hb.1.2.1
  have hR := hv.2.1
  have hC := hv.2.2.2.1
  have hQ' := hQ m9 x rm h1 h4 h5
  rw [← er_ccs_congr hR hC h3] at hQ'
  have inner : ∀ (r : Nat) (s0 : Int), r < er_bR b → (wp_M_cutChannels_9 K (s0 + er_sum (er_bC b) (fun c => er_c1 (er_nk m9) (er_bR b) (er_bC b) r c)) ((r : Int) + 1) m9 Q) → ∀ (d c : Nat), c + d = er_bC b → wp_M_cutChannels_21 K (s0 + er_sum c (fun c => er_c1 (er_nk m9) (er_bR b) (er_bC b) r c)) (r : Int) (c : Int) m9 Q := by
    intro r s0 hr hnext d
    induction d with
    | zero =>
      intro c hc
      refine vc_M_cutChannels_21 ⟨⟨by omega, by omega⟩, ⟨by omega, by omega⟩, fun _ => ?_, fun hlt => by omega⟩
      rw [show c = er_bC b by omega]
      exact hnext
    | succ d ih =>
      intro c hc
      have h2' := ih (c + 1) (by omega)
      have e : er_sum (c + 1) (fun c => er_c1 (er_nk m9) (er_bR b) (er_bC b) r c) = er_sum c (fun c => er_c1 (er_nk m9) (er_bR b) (er_bC b) r c) + er_c1 (er_nk m9) (er_bR b) (er_bC b) r c := rfl
      rw [e] at h2'
      unfold er_c1 at h2'
      unfold er_c1
      generalize er_sum c (fun c => (if c + 1 < er_bC b then er_cc (er_nk m9) (7 * (r : Int) + (c + 1)) (7 * ((r : Int) + 1) + (c + 1)) else 0) + (if r + 1 < er_bR b then er_cc (er_nk m9) (7 * ((r : Int) + 1) + c) (7 * ((r : Int) + 1) + (c + 1)) else 0)) = s1 at h2' ⊢
      refine vc_M_cutChannels_21 ⟨⟨by omega, by omega⟩, ⟨by omega, by omega⟩, fun hle => by omega, fun _ => ⟨⟨by omega, by omega⟩, fun hc1 => ⟨⟨by omega, by omega⟩, ⟨by omega, by omega⟩, fun hr1 => ?_, fun hr1 => ?_⟩, fun hc1 => ?_⟩⟩
      · rw [if_neg (by omega), if_neg (by omega)] at h2'
        rw [show s0 + s1 + 0 + 0 = s0 + (s1 + (0 + 0)) by omega]
        exact h2'
      · rw [if_neg (by omega), if_pos (by omega)] at h2'
        refine vc_M_tile (vc_M_tile (sp_M_isCut h2 (by omega) (by omega) (by omega) (by omega) ?_))
        rw [show s0 + s1 + 0 + er_cc (er_nk m9) (7 * ((r : Int) + 1) + c) (7 * ((r : Int) + 1) + (c + 1)) = s0 + (s1 + (0 + er_cc (er_nk m9) (7 * ((r : Int) + 1) + c) (7 * ((r : Int) + 1) + (c + 1)))) by omega]
        exact h2'
      · rw [if_pos (by omega)] at h2'
        refine vc_M_tile (vc_M_tile (sp_M_isCut h2 (by omega) (by omega) (by omega) (by omega) ⟨⟨by omega, by omega⟩, ⟨by omega, by omega⟩, fun hr1 => ?_, fun hr1 => ?_⟩))
        · rw [if_neg (by omega)] at h2'
          rw [show s0 + s1 + er_cc (er_nk m9) (7 * (r : Int) + (c + 1)) (7 * ((r : Int) + 1) + (c + 1)) + 0 = s0 + (s1 + (er_cc (er_nk m9) (7 * (r : Int) + (c + 1)) (7 * ((r : Int) + 1) + (c + 1)) + 0)) by omega]
          exact h2'
        · rw [if_pos (by omega)] at h2'
          refine vc_M_tile (vc_M_tile (sp_M_isCut h2 (by omega) (by omega) (by omega) (by omega) ?_))
          rw [show s0 + s1 + er_cc (er_nk m9) (7 * (r : Int) + (c + 1)) (7 * ((r : Int) + 1) + (c + 1)) + er_cc (er_nk m9) (7 * ((r : Int) + 1) + c) (7 * ((r : Int) + 1) + (c + 1)) = s0 + (s1 + (er_cc (er_nk m9) (7 * (r : Int) + (c + 1)) (7 * ((r : Int) + 1) + (c + 1)) + er_cc (er_nk m9) (7 * ((r : Int) + 1) + c) (7 * ((r : Int) + 1) + (c + 1)))) by omega]
          exact h2'
  have outer : ∀ (d r : Nat), r + d = er_bR b → wp_M_cutChannels_9 K (er_sum r (fun r => er_sum (er_bC b) (fun c => er_c1 (er_nk m9) (er_bR b) (er_bC b) r c))) (r : Int) m9 Q := by
    intro d
    induction d with
    | zero =>
      intro r hr
      refine vc_M_cutChannels_9 ⟨⟨by omega, by omega⟩, ⟨by omega, by omega⟩, fun _ => ?_, fun hlt => by omega⟩
      unfold er_ccs at hQ'
      rw [show r = er_bR b by omega]
      exact hQ'
    | succ d ih =>
      intro r hr
      refine vc_M_cutChannels_9 ⟨⟨by omega, by omega⟩, ⟨by omega, by omega⟩, fun hle => by omega, fun _ => ?_⟩
      have := inner r (er_sum r (fun r => er_sum (er_bC b) (fun c => er_c1 (er_nk m9) (er_bR b) (er_bC b) r c))) (by omega) (ih (r + 1) (by omega)) (er_bC b) 0 (by omega)
      rw [show er_sum 0 (fun c => er_c1 (er_nk m9) (er_bR b) (er_bC b) r c) = 0 from rfl, Int.add_zero] at this
      exact this
  exact outer (er_bR b) 0 (by omega)
theorem sp_M_isStrategy {s : Int} {Q : Int → er_M → Prop} (i1 : er_in s) (h1 : 0 ≤ s ∧ s < 4 → Q 1 m) (h0 : ¬ (0 ≤ s ∧ s < 4) → Q 0 m) : er_SI K mi_M_isStrategy [.inl s] m Q :=
  vc_M_isStrategy (sp_M_in i1 (by decide) (by decide) (fun a => ⟨Or.inr rfl, h1 (by omega)⟩) (fun a => ⟨Or.inl rfl, h0 (by omega)⟩))
theorem sp_M_lays {s : Int} {Q : Int → er_M → Prop} (h : er_MI m b H n f) (hs : 0 ≤ s ∧ s < 4) (hQ : ∀ m', (∀ j : Int, 0 ≤ j → j < 36 → m' 97 j = er_97 (er_lay b s.toNat).1 j ∧ 0 ≤ (er_lay b s.toNat).1 j ∧ (er_lay b s.toNat).1 j ≤ 36) → er_MI m' b H n f → er_kp er_mf m m' → Q (if (er_lay b s.toNat).2.2 = 1 then (er_lay b s.toNat).2.1 else -9) m') : er_SI K mi_M_layering [.inr 83, .inl s] m Q := by
  have := sp_M_layering (K := K) (Q := Q) (s := s.toNat) h.2.1 h.1 (by omega) (fun v m' hv h97 kk => by
    rw [hv]
    exact hQ m' h97 (h.kV kk (fun c k z => by unfold er_MV at z; omega)) (kk.wk (fun c k z => by unfold er_MV at z; unfold er_mf; omega)))
  rwa [show ((s.toNat : Nat) : Int) = s by omega] at this
theorem sp_M_layerCount {s : Int} {Q : Int → er_M → Prop} (h : er_MI m b H n f) (i1 : er_in s) (hQ : ∀ m', er_MI m' b H n f → er_kp er_mf m m' → Q (er_qCount b s) m') : er_SI K mi_M_layerCount [.inr 83, .inl s] m Q := by
  unfold er_qCount at hQ
  refine vc_M_layerCount (sp_M_isStrategy i1 (fun hon => ⟨by decide, fun z => absurd z (by decide), fun _ => sp_M_lays h hon (fun m' a1 a2 a3 => ?_)⟩) (fun hoff => ⟨by decide, fun _ => ?_, fun z => absurd rfl z⟩))
  · have hQ' := hQ m' a2 a3
    rw [er_if_f (fun z => z hon)] at hQ'
    exact hQ'
  · have hQ' := hQ m h er_kp.rf
    rw [er_if_t hoff] at hQ'
    exact hQ'
theorem sp_M_layerOf {s r c : Int} {Q : Int → er_M → Prop} (h : er_MI m b H n f) (i1 : er_in s) (i2 : er_in r) (i3 : er_in c) (hQ : ∀ m', er_MI m' b H n f → er_kp er_mf m m' → Q (er_qOf b s r c) m') : er_SI K mi_M_layerOf [.inr 83, .inl s, .inl r, .inl c] m Q := by
  obtain ⟨hb, hv, hh, ht⟩ := id h
  unfold er_qOf at hQ
  refine vc_M_layerOf (sp_M_isStrategy i1 (fun hon => ⟨by decide, fun z => absurd z (by decide), fun _ => sp_M_isPosition hv hb i2 i3 (fun hbd => ⟨by decide, fun _ => sp_M_lays h hon (fun m' a1 a2 a3 => ?_), fun z => absurd z (by decide)⟩) (fun hof => ⟨by decide, fun z => absurd rfl z, fun _ => ?_⟩)⟩) (fun hoff => ⟨by decide, fun _ => ?_, fun z => absurd rfl z⟩))
  · obtain ⟨x0, x1, x2, x3⟩ := er_obd_pl hv hbd
    have hQ' := hQ m' a2 a3
    rw [er_if_f (fun z => z.elim (fun z => z hon) (fun z => z hbd))] at hQ'
    refine ⟨x0, x1, ?_⟩
    rw [(a1 _ x0 x1).1]
    exact hQ'
  · have hQ' := hQ m h er_kp.rf
    rw [er_if_t (Or.inr hof)] at hQ'
    exact hQ'
  · have hQ' := hQ m h er_kp.rf
    rw [er_if_t (Or.inl hoff)] at hQ'
    exact hQ'
theorem sp_M_layerLoad {s l : Int} {Q : Int → er_M → Prop} (h : er_MI m b H n f) (i1 : er_in s) (i2 : er_in l) (hQ : ∀ m', er_MI m' b H n f → er_kp er_mf m m' → Q (er_qLoad b s l) m') : er_SI K mi_M_layerLoad [.inr 83, .inl s, .inl l] m Q := by
  unfold er_qLoad at hQ
  refine vc_M_layerLoad (sp_M_isStrategy i1 (fun hon => ⟨by decide, fun z => absurd z (by decide), fun _ => ⟨i2, fun h1 => sp_M_lays h hon (fun m' a1 a2 a3 => ?_), fun h1 => ?_⟩⟩) (fun hoff => ⟨by decide, fun _ => ?_, fun z => absurd rfl z⟩))
  · have hQ' := hQ m' a2 a3
    rw [er_if_f (fun z => z.elim (fun z => z hon) (fun z => by omega))] at hQ'
    have loop : ∀ (d x : Nat), x + d = 36 → wp_M_layerLoad_25 K l (er_sum x (fun p => er_ic ((er_lay b s.toNat).1 (p : Int) = l))) (x : Int) m' Q := by
      intro d
      induction d with
      | zero =>
        intro x hx
        refine vc_M_layerLoad_25 ⟨⟨by omega, by omega⟩, fun _ => ?_, fun hlt => by omega⟩
        rw [show x = 36 by omega]
        exact hQ'
      | succ d ih =>
        intro x hx
        obtain ⟨g0, g1, g2⟩ := a1 (x : Int) (by omega) (by omega)
        have e : er_sum (x + 1) (fun p => er_ic ((er_lay b s.toNat).1 (p : Int) = l)) = er_sum x (fun p => er_ic ((er_lay b s.toNat).1 (p : Int) = l)) + er_ic ((er_lay b s.toNat).1 (x : Int) = l) := rfl
        have i2' := ih (x + 1) (by omega)
        rw [e] at i2'
        have hiff : m' 97 (x : Int) = l ↔ (er_lay b s.toNat).1 (x : Int) = l := by
          rw [g0]
          unfold er_97
          by_cases hz : (er_lay b s.toNat).1 (x : Int) = 0
          · rw [if_pos hz]; omega
          · rw [if_neg hz]
        have hin : er_in (m' 97 (x : Int)) := by
          rw [g0]
          unfold er_97
          by_cases hz : (er_lay b s.toNat).1 (x : Int) = 0
          · rw [if_pos hz]; decide
          · rw [if_neg hz]; exact ⟨by omega, by omega⟩
        refine vc_M_layerLoad_25 ⟨⟨by omega, by omega⟩, fun hle => by omega, fun _ => ⟨by omega, by omega, hin, i2, fun hne => ?_, fun he => ?_⟩⟩
        · rw [er_ic_f (fun w => hne (hiff.mpr w))] at i2'
          exact i2'
        · rw [er_ic_t (hiff.mp he)] at i2'
          exact i2'
    exact loop 36 0 rfl
  · have hQ' := hQ m h er_kp.rf
    rw [er_if_t (Or.inr h1)] at hQ'
    exact hQ'
  · have hQ' := hQ m h er_kp.rf
    rw [er_if_t (Or.inl hoff)] at hQ'
    exact hQ'
theorem sp_M_bestStrategy {Q : Int → er_M → Prop} (h : er_MI m b H n f) (hQ : ∀ m', er_MI m' b H n f → er_kp er_mf m m' → Q (er_best b 4 0 (-9) 37) m') : er_SI K mi_M_bestStrategy [.inr 83] m Q := by
  have loop : ∀ (d k : Nat) (best few : Int) (m1 : er_M), k + d = 4 → er_best b d k best few = er_best b 4 0 (-9) 37 → 0 ≤ few → few ≤ 100000 → er_MI m1 b H n f → er_kp er_mf m m1 → wp_M_bestStrategy_8 K best few (k : Int) m1 Q := by
    intro d
    induction d with
    | zero =>
      intro k best few m1 hk he f0 f1 h1 kk
      refine vc_M_bestStrategy_8 ⟨⟨by omega, by omega⟩, fun _ => ?_, fun hlt => by omega⟩
      have := hQ m1 h1 kk
      rw [← he] at this
      exact this
    | succ d ih =>
      intro k best few m1 hk he f0 f1 h1 kk
      simp only [er_best] at he
      have hbd := er_lay_bd b k
      have hc := er_lay_c b k
      refine vc_M_bestStrategy_8 ⟨⟨by omega, by omega⟩, fun hle => by omega, fun _ => sp_M_lays h1 ⟨by omega, by omega⟩ (fun m' a1 a2 a3 => ?_)⟩
      rw [show ((k : Int)).toNat = k by omega]
      rcases hc with hc | hc
      · rw [if_neg (by omega)]
        rw [er_if_f (fun y => by omega)] at he
        exact ⟨by decide, fun _ => ih (k + 1) best few m' (by omega) he f0 f1 a2 (kk.tr a3), fun z => absurd rfl z⟩
      · have := hbd.2 hc
        rw [if_pos hc]
        refine ⟨⟨by omega, by omega⟩, fun z => by omega, fun _ => ⟨⟨by omega, by omega⟩, fun w => ?_, fun w => ?_⟩⟩
        · rw [er_if_f (fun y => by omega)] at he
          exact ih (k + 1) best few m' (by omega) he f0 f1 a2 (kk.tr a3)
        · rw [er_if_t ⟨hc, w⟩] at he
          exact ih (k + 1) (k : Int) _ m' (by omega) he (by omega) (by omega) a2 (kk.tr a3)
  exact vc_M_bestStrategy (loop 4 0 (-9) 100000 m rfl (er_best_big b 4 0 (-9) 100000 37 (by decide) (by decide)) (by decide) (by decide) h er_kp.rf)
theorem sp_M_throughput {Q : Int → er_M → Prop} (h : er_MI m b H n f) (hQ : ∀ m' x rm, er_max (er_Mthr b) rm x → 0 ≤ x → x ≤ 216 → er_MI m' b H n f → er_kp er_mf m m' → Q x m') : er_SI K mi_M_throughput [.inr 83] m Q := vc_M_throughput (sp_M_most h hQ)
theorem sp_M_lowerBound {Q : Int → er_M → Prop} (h : er_MI m b H n f) (hQ : ∀ m' v, ((er_sig b = 0 ∧ v = 0) ∨ (er_sig b ≠ 0 ∧ ∃ x rm, er_max (er_Mthr b) rm x ∧ ((0 < x ∧ v = (er_sig b + x - 1) / x) ∨ (x = 0 ∧ v = -9)))) → er_MI m' b H n f → er_kp er_mf m m' → Q v m') : er_SI K mi_M_lowerBound [.inr 83] m Q := by
  have hsb := er_sig_bd b
  refine vc_M_lowerBound (sp_M_signals h.2.1 h.1 (sp_M_most h (fun m' x rm q1 q2 q3 q4 q5 => ⟨⟨by omega, by omega⟩, fun hnz => ⟨⟨by omega, by omega⟩, fun hx => ⟨by omega, by omega, by omega, by omega, ?_⟩, fun hx => ?_⟩, fun hz => hQ m' 0 (Or.inl ⟨hz, rfl⟩) q4 q5⟩)))
  · exact hQ m' _ (Or.inr ⟨hnz, x, rm, q1, Or.inl ⟨by omega, rfl⟩⟩) q4 q5
  · exact hQ m' _ (Or.inr ⟨hnz, x, rm, q1, Or.inr ⟨hx, rfl⟩⟩) q4 q5
end ERMK
