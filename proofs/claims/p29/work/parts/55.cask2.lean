/-! what is asked of the class: the rest -/
noncomputable def er_qKind (b : er_Bo) (r c : Int) : Int := er_if (¬ er_obd b r c) (-1) (er_bk b (6 * r + c))
noncomputable def er_qPart (b : er_Bo) (r c : Int) : Int := er_if (¬ er_obd b r c) (-1) (er_if (er_bp b (6 * r + c) = -1) (-9) (10 * (er_bp b (6 * r + c) / 6) + er_bp b (6 * r + c) % 6))
noncomputable def er_qCount (b : er_Bo) (s : Int) : Int := er_if (¬ (0 ≤ s ∧ s < 4)) (-1) (if (er_lay b s.toNat).2.2 = 1 then (er_lay b s.toNat).2.1 else -9)
noncomputable def er_qLoad (b : er_Bo) (s l : Int) : Int := er_if (¬ (0 ≤ s ∧ s < 4) ∨ l < 1) (-1) (er_sum 36 (fun p => er_ic ((er_lay b s.toNat).1 (p : Int) = l)))
/-- the best strategy, from the k-th on -/
theorem er_lays_c (b : er_Bo) (seq : List Nat) : ∀ (k : Nat) (l : Int) (f : Int → Int) (left : Int), (er_lays b seq k l f left).2.2 = 0 ∨ (er_lays b seq k l f left).2.2 = 1 := by
  intro k
  induction k with
  | zero => intro l f left; exact Or.inl rfl
  | succ k ih =>
    intro l f left
    simp only [er_lays]
    by_cases h1 : left ≤ 0
    · rw [if_pos h1]; exact Or.inr rfl
    · rw [if_neg h1]
      by_cases h2 : (er_put b (er_opn b f) l seq [] f []).2 = []
      · rw [er_if_t h2]; exact Or.inl rfl
      · rw [er_if_f h2]; exact ih _ _ _
theorem er_lay_c (b : er_Bo) (s : Nat) : (er_lay b s).2.2 = 0 ∨ (er_lay b s).2.2 = 1 := er_lays_c b _ _ _ _ _
theorem er_sd_congr {S T : Int → Prop} {t r : Int} (t0 : 0 ≤ t) (t1 : t < 49) (h : ∀ v : Int, 0 ≤ v → v < 136 → (S v ↔ T v)) (hs : er_sd S t r) : er_sd T t r := by
  unfold er_sd at hs ⊢
  rw [← h (38 + t) (by omega) (by omega), ← h (87 + t) (by omega) (by omega)]
  exact hs
/-- one channel: is it cut -/
noncomputable def er_cc (S : Int → Prop) (a b : Int) : Int := er_ic ((S (87 + a) ∧ ¬ S (38 + b)) ∨ (S (87 + b) ∧ ¬ S (38 + a)))
noncomputable def er_c1 (S : Int → Prop) (R C r c : Nat) : Int := (if c + 1 < C then er_cc S (7 * (r : Int) + (c + 1)) (7 * ((r : Int) + 1) + (c + 1)) else 0) + (if r + 1 < R then er_cc S (7 * ((r : Int) + 1) + c) (7 * ((r : Int) + 1) + (c + 1)) else 0)
noncomputable def er_ccs (S : Int → Prop) (R C : Nat) : Int := er_sum R (fun r => er_sum C (fun c => er_c1 S R C r c))
theorem er_ncut_chan (S : Int → Prop) (R C : Nat) (ch : Int) (op : Int → Int) (r c : Nat) (X : List er_Ed) : er_ncut S (er_chan R C ch op r c ++ X) = er_c1 S R C r c + er_ncut S X := by
  unfold er_chan er_c1
  by_cases h1 : c + 1 < C
  · rw [if_pos h1, if_pos h1]
    by_cases h2 : r + 1 < R
    · rw [if_pos h2, if_pos h2]
      show er_nc2 S _ _ + (er_nc2 S _ _ + er_ncut S X) = _
      unfold er_nc2 er_cc
      simp only
      omega
    · rw [if_neg h2, if_neg h2]
      show er_nc2 S _ _ + er_ncut S X = _
      unfold er_nc2 er_cc
      simp only
      omega
  · rw [if_neg h1, if_neg h1]
    by_cases h2 : r + 1 < R
    · rw [if_pos h2, if_pos h2]
      show er_nc2 S _ _ + er_ncut S X = _
      unfold er_nc2 er_cc
      simp only
      omega
    · rw [if_neg h2, if_neg h2]
      show er_ncut S X = _
      omega
theorem er_ncut_flat (S : Int → Prop) {g : Nat → List er_Ed} {w : Nat → Int} : ∀ (n : Nat), (∀ i, i < n → ∀ X, er_ncut S (g i ++ X) = w i + er_ncut S X) → ∀ X, er_ncut S (er_flat n g ++ X) = er_sum n w + er_ncut S X := by
  intro n
  induction n with
  | zero => intro _ X; show er_ncut S X = 0 + er_ncut S X; omega
  | succ n ih =>
    intro h X
    show er_ncut S ((er_flat n g ++ g n) ++ X) = (er_sum n w + w n) + er_ncut S X
    rw [List.append_assoc, ih (fun i hi => h i (by omega)), h n (by omega)]
    omega
theorem er_ncut_chans (S : Int → Prop) (R C : Nat) (ch : Int) (op : Int → Int) : er_ncut S (er_chans R C ch op) = er_ccs S R C := by
  have := er_ncut_flat S (g := fun r => er_flat C (fun c => er_chan R C ch op r c)) (w := fun r => er_sum C (fun c => er_c1 S R C r c)) R (fun r _ X => er_ncut_flat S C (fun c _ X => er_ncut_chan S R C ch op r c X) X) []
  rw [List.append_nil] at this
  unfold er_ccs er_chans
  rw [this]
  show _ + 0 = _
  omega
theorem er_flat_even {g : Nat → List er_Ed} : ∀ n : Nat, (∀ i, i < n → (g i).length % 2 = 0) → (er_flat n g).length % 2 = 0 := by
  intro n
  induction n with
  | zero => intro _; rfl
  | succ n ih =>
    intro h
    have h1 := ih (fun i hi => h i (by omega))
    have h2 := h n (by omega)
    show (er_flat n g ++ g n).length % 2 = 0
    rw [List.length_append]
    omega
theorem er_chans_even (R C : Nat) (ch : Int) (op : Int → Int) : (er_chans R C ch op).length % 2 = 0 := by
  refine er_flat_even R (fun r _ => er_flat_even C (fun c _ => ?_))
  unfold er_chan
  rw [List.length_append]
  split <;> split <;> simp [er_both]
theorem er_ccs_congr {S T : Int → Prop} {R C : Nat} (hR : R ≤ 6) (hC : C ≤ 6) (h : ∀ v : Int, 0 ≤ v → v < 136 → (S v ↔ T v)) : er_ccs S R C = er_ccs T R C := by
  have hcc : ∀ a b : Int, 0 ≤ a → a < 49 → 0 ≤ b → b < 49 → er_cc S a b = er_cc T a b := fun a b a0 a1 b0 b1 => er_ic_iff (by
    rw [h (87 + a) (by omega) (by omega), h (87 + b) (by omega) (by omega), h (38 + a) (by omega) (by omega), h (38 + b) (by omega) (by omega)])
  refine er_sum_congr (fun r hr => er_sum_congr (fun c hc => ?_))
  unfold er_c1
  congr 1
  · by_cases h1 : c + 1 < C
    · rw [if_pos h1, if_pos h1]; exact hcc _ _ (by omega) (by omega) (by omega) (by omega)
    · rw [if_neg h1, if_neg h1]
  · by_cases h1 : r + 1 < R
    · rw [if_pos h1, if_pos h1]; exact hcc _ _ (by omega) (by omega) (by omega) (by omega)
    · rw [if_neg h1, if_neg h1]
section ERCR
variable {K : er_K} {m : er_M} {b : er_Bo} {H : List er_Bo} {n : Nat} {f : Int → Int} {c0 : Int}
theorem sp_R_rows {Q : Int → er_M → Prop} (h : er_CI m b H n f c0) (hQ : Q (er_bR b : Int) m) : er_SI K mi_R_rows [.inr 1] m Q := vc_R_rows (by rw [h.1.1.1]; exact hQ)
theorem sp_R_columns {Q : Int → er_M → Prop} (h : er_CI m b H n f c0) (hQ : Q (er_bC b : Int) m) : er_SI K mi_R_columns [.inr 1] m Q := vc_R_columns (by rw [h.1.1.2.1]; exact hQ)
theorem sp_R_signalCount {Q : Int → er_M → Prop} (h : er_CI m b H n f c0) (hQ : Q (er_sig b) m) : er_SI K mi_R_signalCount [.inr 1] m Q := vc_R_signalCount (sp_B_countSignals h.1.2.1 h.1.1 hQ)
theorem sp_R_kindAt {r c : Int} {Q : Int → er_M → Prop} (h : er_CI m b H n f c0) (i1 : er_in r) (i2 : er_in c) (hQ : Q (er_qKind b r c) m) : er_SI K mi_R_kindAt [.inr 1, .inl r, .inl c] m Q := by
  obtain ⟨⟨hb, hv, hh, ht⟩, -⟩ := id h
  unfold er_qKind at hQ
  refine vc_R_kindAt (sp_B_has hv hb i1 i2 (fun hon => ⟨by decide, fun z => absurd z (by decide), fun _ => vc_R_placeOf ?_⟩) (fun hoff => ⟨by decide, fun _ => ?_, fun z => absurd rfl z⟩))
  · obtain ⟨x0, x1, x2, x3⟩ := er_obd_pl hv hon
    rw [er_if_f (fun z => z hon)] at hQ
    rw [show r * 6 + c = 6 * r + c by omega, (hb.2.2.2.2 _ x0 x1).1]
    exact ⟨x0, x1, hQ⟩
  · rw [er_if_t hoff] at hQ; exact hQ
theorem sp_R_partnerOf {r c : Int} {Q : Int → er_M → Prop} (h : er_CI m b H n f c0) (i1 : er_in r) (i2 : er_in c) (hQ : Q (er_qPart b r c) m) : er_SI K mi_R_partnerOf [.inr 1, .inl r, .inl c] m Q := by
  obtain ⟨⟨hb, hv, hh, ht⟩, -⟩ := id h
  unfold er_qPart at hQ
  refine vc_R_partnerOf (sp_B_has hv hb i1 i2 (fun hon => ⟨by decide, fun _ => vc_R_placeOf ?_, fun z => absurd z (by decide)⟩) (fun hoff => ⟨by decide, fun z => absurd rfl z, fun _ => ?_⟩))
  · obtain ⟨x0, x1, x2, x3⟩ := er_obd_pl hv hon
    have hpd := hv.2.2.2.2.2.2.2.2.2.2.1 _ x0 x1
    have h4 : m 4 (6 * r + c) = er_bp b (6 * r + c) := (hb.2.2.2.2 _ x0 x1).2.1
    rw [er_if_f (fun z => z hon)] at hQ
    rw [show r * 6 + c = 6 * r + c by omega, h4]
    refine ⟨x0, x1, by rcases hpd with z | z <;> exact ⟨by omega, by omega⟩, fun hne => ?_, fun he => ?_⟩
    · rw [er_if_f hne] at hQ
      exact ⟨by rcases hpd with z | z <;> omega, by rcases hpd with z | z <;> omega, hQ⟩
    · rw [er_if_t he] at hQ; exact hQ
  · rw [er_if_t hoff] at hQ; exact hQ
theorem sp_R_escapeCount {Q : Int → er_M → Prop} (h : er_CI m b H n f c0) (hc0 : c0 < 1999000000) (hQ : ∀ m' x rm, er_max (er_Lsel b) rm x → er_CI m' b H n f (c0 + 30000) → er_kp er_cf m m' → Q x m') : er_SI K mi_R_escapeCount [.inr 1] m Q :=
  vc_R_escapeCount (sp_R_solve h hc0 (fun m' h1 h2 h3 h4 => hQ m' _ _ h3.2.1 h1 h4))
theorem sp_R_tileSide {p q : Int} {Q : Int → er_M → Prop} (h : er_CI m b H n f c0) (hc0 : c0 < 1999000000) (i1 : er_in p) (i2 : er_in q) (hQ : ∀ m' v, ((¬ (0 ≤ p ∧ p ≤ er_bR b ∧ 0 ≤ q ∧ q ≤ er_bC b) ∧ v = -1) ∨ ((0 ≤ p ∧ p ≤ er_bR b ∧ 0 ≤ q ∧ q ≤ er_bC b) ∧ ∃ x rm, er_max (er_Lsel b) rm x ∧ er_sd (er_near (er_Lsel b) rm) (7 * p + q) v)) → er_CI m' b H n f (c0 + 30000) → er_kp er_cf m m' → Q v m') : er_SI K mi_R_tileSide [.inr 1, .inl p, .inl q] m Q := by
  obtain ⟨⟨hb, hv, hh, ht⟩, hsol, hl, hck⟩ := id h
  have g0 := hb.1
  have g1 := hb.2.1
  have hR := hv.2.1
  have hC := hv.2.2.2.1
  have up : er_CI m b H n f (c0 + 30000) := er_CI_tr h er_kp.rf (F := fun _ _ => False) (fun _ _ _ _ z => z) hsol hl ⟨hck.1, by have := hck.2.1; omega, hck.2.2.1, by have := hck.2.2.2; omega⟩
  refine vc_R_tileSide ⟨i1, fun z => hQ m _ (Or.inl ⟨fun w => by omega, rfl⟩) up er_kp.rf, fun z1 => ⟨⟨by omega, by omega⟩, fun z => hQ m _ (Or.inl ⟨fun w => by omega, rfl⟩) up er_kp.rf, fun z2 => ⟨i2, fun z => hQ m _ (Or.inl ⟨fun w => by omega, rfl⟩) up er_kp.rf, fun z3 => ⟨⟨by omega, by omega⟩, fun z4 => ?_, fun z => hQ m _ (Or.inl ⟨fun w => by omega, rfl⟩) up er_kp.rf⟩⟩⟩⟩
  refine sp_R_solve h hc0 (fun m9 h1 h2 h3 h4 => vc_R_tileAt ?_)
  obtain ⟨-, -, -, k1, k2, k3, k4⟩ := id h1
  rw [show p * 7 + q = 7 * p + q by omega]
  refine sp_N_sideOf (Or.inl rfl) k1 (by omega) (by omega) (by omega) (fun r hr => hQ m9 r (Or.inr ⟨⟨by omega, by omega, by omega, by omega⟩, _, _, h3.2.1, er_sd_congr (by omega) (by omega) h3.2.2.1 hr⟩) h1 h4)
theorem sp_R_cutChannels {Q : Int → er_M → Prop} (h : er_CI m b H n f c0) (hc0 : c0 < 1999000000) (hQ : ∀ m' x rm, er_max (er_Lsel b) rm x → er_CI m' b H n f (c0 + 30000) → er_kp er_cf m m' → Q (er_ccs (er_near (er_Lsel b) rm) (er_bR b) (er_bC b)) m') : er_SI K mi_R_cutChannels [.inr 1] m Q := by
  have hv := h.1.2.1
  refine vc_R_cutChannels (sp_R_solve h hc0 (fun m9 h1 h2 h3 h4 => ?_))
  obtain ⟨-, -, -, k1, k2, k3, k4⟩ := id h1
  have hL : er_Lsel b = (er_srcs (fun p => er_ic (er_bs b (p : Int) = 1)) ++ (er_pins (er_bR b) (er_bC b) (er_bk b) 1 ++ er_tiles (er_bR b) (er_bC b) (er_bt b) 1000000)) ++ er_chans (er_bR b) (er_bC b) (er_bh b) (fun j => er_ic (er_bk b j = 0)) := by
    unfold er_Lsel er_LC
    simp only [List.append_assoc]
  have hev := er_chans_even (er_bR b) (er_bC b) (er_bh b) (fun j => er_ic (er_bk b j = 0))
  refine sp_N_countCut (k := (er_chans (er_bR b) (er_bC b) (er_bh b) (fun j => er_ic (er_bk b j = 0))).length / 2) (Or.inl rfl) (by rw [← hL]; exact h3.1) k1 (by omega) (by rw [h3.2.2.2.1, List.length_append, List.length_append, er_srcs_len]; omega) (by omega) (fun r hr => ?_)
  rw [er_ncut_chans, er_ccs_congr hv.2.1 hv.2.2.2.1 h3.2.2.1] at hr
  rw [hr]
  exact hQ m9 _ _ h3.2.1 h1 h4
theorem sp_R_isStrategy {s : Int} {Q : Int → er_M → Prop} (i1 : er_in s) (h1 : 0 ≤ s ∧ s < 4 → Q 1 m) (h0 : ¬ (0 ≤ s ∧ s < 4) → Q 0 m) : er_SI K mi_R_isStrategy [.inl s] m Q :=
  vc_R_isStrategy ⟨i1, fun z => h0 (fun w => by omega), fun z => ⟨fun w => h0 (fun y => by omega), fun w => h1 ⟨z, w⟩⟩⟩
/-- a layering is worked out -/
theorem sp_R_refresh {s : Nat} {cc : Int} {Q : Nat → er_M → Prop} (h : er_CI m b H n f cc) (hc0 : cc < 1999000000) (hs : s < 4) (hQ : ∀ m', er_LO (62 + 5 * s) b s m' → er_CI m' b H n f (cc + 2592) → er_kp er_cf m m' → Q (62 + 5 * s) m') : er_SR K mi_Y_refresh [.inr (62 + 5 * s), .inr 2, .inr 52] m Q := by
  obtain ⟨⟨hb, hv, hh, ht⟩, ⟨hs7, ht9⟩, hl, k1, k2, k3, k4⟩ := id h
  obtain ⟨l1, l2, l3⟩ := hl s hs
  refine sp_Y_refresh (er_isY_s s hs) hv hb l2 hs l3 k3 (by omega) (fun m' q1 q2 q3 q4 q5 q6 => ?_)
  have e1 : ∀ k, m' 1 k = m 1 k := fun k => q6 1 k (by unfold er_YG; omega)
  refine hQ m' q1 (er_CI_tr h q6 (fun q k a z => by unfold er_YG; omega) ⟨?_, by rw [e1]; exact ht9⟩ (fun t ht => ?_) ⟨k1.kpF q6 (fun k => by unfold er_YG; omega) (by unfold er_YG; omega), by rw [q6 43 10 (by unfold er_YG; omega)]; omega, q3, by omega⟩) (q6.wk (fun c k z => by unfold er_YG at z; unfold er_cf; omega))
  · rw [e1]
    exact hs7.imp id (fun z => ⟨z.1, z.2.kp q6 (fun q k a z => by unfold er_YG; omega) (by unfold er_YG; omega)⟩)
  · obtain ⟨t1, t2, t3⟩ := hl t ht
    refine ⟨by rw [q6 61 _ (by unfold er_YG; omega)]; exact t1, by rw [q6 _ 0 (by unfold er_YG; omega)]; exact t2, ?_⟩
    by_cases hts : t = s
    · rw [hts]; exact Or.inr ⟨q2, q1⟩
    · have e : ∀ q k, 62 + 5 * t ≤ q → q ≤ 62 + 5 * t + 4 → m' q k = m q k := fun q k a z => q6 q k (by unfold er_YG; omega)
      rw [e (62 + 5 * t) 8 (by omega) (by omega)]
      refine t3.imp id (fun z => ⟨z.1, ?_⟩)
      unfold er_LO at z ⊢
      rw [e (62 + 5 * t) 6 (by omega) (by omega), e (62 + 5 * t) 7 (by omega) (by omega)]
      refine ⟨fun j j0 j1 => ?_, z.2.2⟩
      rw [e (62 + 5 * t + 4) j (by omega) (by omega)]
      exact z.2.1 j j0 j1
theorem er_CI.up {c1 : Int} (h : er_CI m b H n f c0) (hc : c0 ≤ c1) : er_CI m b H n f c1 := by
  obtain ⟨h1, h2, h3, k1, k2, k3, k4⟩ := h
  exact ⟨h1, h2, h3, k1, by omega, k3, by omega⟩
theorem sp_R_layerCount {s : Int} {Q : Int → er_M → Prop} (h : er_CI m b H n f c0) (hc0 : c0 < 1999000000) (i1 : er_in s) (hQ : ∀ m', er_CI m' b H n f (c0 + 30000) → er_kp er_cf m m' → Q (er_qCount b s) m') : er_SI K mi_R_layerCount [.inr 1, .inl s] m Q := by
  unfold er_qCount at hQ
  refine vc_R_layerCount (sp_R_isStrategy i1 (fun hon => ⟨by decide, fun _ => ?_, fun z => absurd z (by decide)⟩) (fun hoff => ⟨by decide, fun z => absurd rfl z, fun _ => ?_⟩))
  · have hl := h.2.2.1 s.toNat (by omega)
    refine ⟨hon.1, hon.2, 62 + 5 * s.toNat, by have := hl.1; rwa [show ((s.toNat : Nat) : Int) = s by omega] at this, er_isY_s _ (by omega), ?_⟩
    refine sp_R_refresh h hc0 (by omega) (fun m' q1 q2 q3 => ⟨er_isY_s _ (by omega), ?_⟩)
    have hc := er_lay_c b s.toNat
    have hQ' := hQ m' (q2.up (by omega)) q3
    rw [er_if_f (fun z => z hon)] at hQ'
    obtain ⟨o1, o2, o3, o4, o5⟩ := q1
    rw [o5, o2]
    refine ⟨by rcases hc with z | z <;> exact ⟨by omega, by omega⟩, fun z => ?_, fun z => ?_⟩
    · rw [if_neg (by omega)] at hQ'; exact hQ'
    · rw [if_pos (by omega)] at hQ'; exact hQ'
  · have hQ' := hQ m (h.up (by omega)) er_kp.rf
    rw [er_if_t hoff] at hQ'
    exact hQ'
theorem sp_Y_countOn {y : Nat} {l : Int} {g : Int → Int} {Q : Int → er_M → Prop} (hy : er_isY y) (hg : ∀ j : Int, 0 ≤ j → j < 36 → m (y + 4) j = g j ∧ 0 ≤ g j ∧ g j ≤ 36) (il : er_in l) (hQ : Q (er_sum 36 (fun p => er_ic (g (p : Int) = l))) m) : er_SI K mi_Y_countOn [.inr y, .inl l] m Q := by
  have loop : ∀ (d x : Nat), x + d = 36 → 0 ≤ er_sum x (fun p => er_ic (g (p : Int) = l)) → er_sum x (fun p => er_ic (g (p : Int) = l)) ≤ x → wp_Y_countOn_4 K y l (er_sum x (fun p => er_ic (g (p : Int) = l))) (x : Int) m Q := by
    intro d
    induction d with
    | zero =>
      intro x hx s0 s1
      refine vc_Y_countOn_4 hy ⟨⟨by omega, by omega⟩, fun _ => ?_, fun hlt => by omega⟩
      rw [show x = 36 by omega]
      exact hQ
    | succ d ih =>
      intro x hx s0 s1
      obtain ⟨g0, g1, g2⟩ := hg (x : Int) (by omega) (by omega)
      have e : er_sum (x + 1) (fun p => er_ic (g (p : Int) = l)) = er_sum x (fun p => er_ic (g (p : Int) = l)) + er_ic (g (x : Int) = l) := rfl
      have i2 := ih (x + 1) (by omega)
      rw [e] at i2
      refine vc_Y_countOn_4 hy ⟨⟨by omega, by omega⟩, fun hle => by omega, fun _ => ⟨by omega, by omega, by rw [g0]; exact ⟨by omega, by omega⟩, il, fun hne => ?_, fun he => ?_⟩⟩
      · rw [er_ic_f (by rw [← g0]; exact hne), Int.add_zero] at i2
        exact i2 s0 (by omega)
      · rw [er_ic_t (by rw [← g0]; exact he)] at i2
        exact i2 (by omega) (by omega)
  exact vc_Y_countOn hy (loop 36 0 rfl (Int.le_refl _) (Int.le_refl _))
theorem sp_R_layerLoad {s l : Int} {Q : Int → er_M → Prop} (h : er_CI m b H n f c0) (hc0 : c0 < 1999000000) (i1 : er_in s) (i2 : er_in l) (hQ : ∀ m', er_CI m' b H n f (c0 + 30000) → er_kp er_cf m m' → Q (er_qLoad b s l) m') : er_SI K mi_R_layerLoad [.inr 1, .inl s, .inl l] m Q := by
  unfold er_qLoad at hQ
  refine vc_R_layerLoad (sp_R_isStrategy i1 (fun hon => ⟨by decide, fun z => absurd z (by decide), fun _ => ⟨i2, fun h1 => ?_, fun h1 => ?_⟩⟩) (fun hoff => ⟨by decide, fun _ => ?_, fun z => absurd rfl z⟩))
  · have hl := h.2.2.1 s.toNat (by omega)
    refine ⟨hon.1, hon.2, 62 + 5 * s.toNat, by have := hl.1; rwa [show ((s.toNat : Nat) : Int) = s by omega] at this, er_isY_s _ (by omega), ?_⟩
    refine sp_R_refresh h hc0 (by omega) (fun m' q1 q2 q3 => ⟨er_isY_s _ (by omega), sp_Y_countOn (er_isY_s _ (by omega)) q1.1 i2 ?_⟩)
    have hQ' := hQ m' (q2.up (by omega)) q3
    rw [er_if_f (fun z => z.elim (fun z => z hon) (fun z => by omega))] at hQ'
    exact hQ'
  · have hQ' := hQ m (h.up (by omega)) er_kp.rf
    rw [er_if_t (Or.inr h1)] at hQ'
    exact hQ'
  · have hQ' := hQ m (h.up (by omega)) er_kp.rf
    rw [er_if_t (Or.inl hoff)] at hQ'
    exact hQ'
theorem sp_R_lowerBound {Q : Int → er_M → Prop} (h : er_CI m b H n f c0) (hc0 : c0 < 1999000000) (hQ : ∀ m' v, ((er_sig b = 0 ∧ v = 0) ∨ (er_sig b ≠ 0 ∧ ∃ x rm, er_max (er_Lthr b) rm x ∧ ((0 < x ∧ v = (er_sig b + x - 1) / x) ∨ (x = 0 ∧ v = -9)))) → er_CI m' b H n f (c0 + 30000) → er_kp er_cf m m' → Q v m') : er_SI K mi_R_lowerBound [.inr 1] m Q := by
  have hsb := er_sig_bd b
  refine vc_R_lowerBound (sp_B_countSignals h.1.2.1 h.1.1 ⟨⟨by omega, by omega⟩, fun hnz => ?_, fun hz => hQ m 0 (Or.inl ⟨hz, rfl⟩) (h.up (by omega)) er_kp.rf⟩)
  refine sp_R_throughput h hc0 (fun m' x rm q1 q2 q3 q4 q5 => ⟨⟨by omega, by omega⟩, fun hpos => ⟨by omega, by omega, hpos, by omega, ?_⟩, fun hle => ?_⟩)
  · exact hQ m' _ (Or.inr ⟨hnz, x, rm, q1, Or.inl ⟨hpos, rfl⟩⟩) q4 q5
  · exact hQ m' _ (Or.inr ⟨hnz, x, rm, q1, Or.inr ⟨by omega, rfl⟩⟩) q4 q5
end ERCR
