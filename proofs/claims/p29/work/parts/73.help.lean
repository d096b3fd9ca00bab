/-! the law's helpers: a cell of the script, a low number, an edit, what holds -/
section ERH
variable {K : er_K} {m : er_M} {b : er_Bo} {H : List er_Bo} {n : Nat} {f : Int → Int} {c0 : Int}
theorem sp_L_cell {k : Int} {Q : Int → er_M → Prop} (hL : K.2.2.2.2.2.1 ≤ 260) (k0 : 0 ≤ k) (k1 : k < 100) (hQ : ∀ y, Q y m) : er_SI K mi_L_cell [.inr 0, .inl k] m Q :=
  vc_L_cell ⟨⟨by omega, by omega⟩, ⟨by omega, by omega⟩, fun _ => hQ _, fun h => ⟨k0, h, by omega, hQ _⟩⟩
theorem sp_L_low {v x : Int} {Q : Int → er_M → Prop} (n0 : 0 < x) (n1 : x < 2147483648) (hQ : ∀ y : Int, 0 ≤ y → y < x → Q y m) : er_SI K mi_L_low [.inl v, .inl x] m Q :=
  vc_L_low (fun y _ _ => ⟨n0, n1, hQ _ (Int.emod_nonneg _ (by omega)) (Int.emod_lt_of_pos _ n0)⟩)
/-- an edit: refused, and all as it was; or done, and the board before is kept -/
def er_ed (b : er_Bo) (H : List er_Bo) (a : Int × er_Bo × List er_Bo) : Prop := er_in a.1 ∧ ((a.1 < 0 ∧ a.2.1 = b ∧ a.2.2 = H) ∨ (0 ≤ a.1 ∧ a.2.2 = er_push H b))
theorem er_ed_no {v : Int} (h : v = -1 ∨ v = -2) : er_ed b H (v, b, H) := ⟨⟨by show _ ≤ v; omega, by show v < _; omega⟩, Or.inl ⟨by show v < 0; omega, rfl, rfl⟩⟩
theorem er_ed_yes {v : Int} {b' : er_Bo} (h0 : 0 ≤ v) (h1 : v ≤ 100) : er_ed b H (v, b', er_push H b) := ⟨⟨by show _ ≤ v; omega, by show v < _; omega⟩, Or.inr ⟨h0, rfl⟩⟩
theorem er_ed_Kind (hv : er_BV b) (r c v : Int) : er_ed b H (er_aKind b H r c v) := by
  unfold er_aKind
  by_cases h1 : ¬ er_obd b r c ∨ v < 0 ∨ 2 < v
  · rw [er_if_t h1]; exact er_ed_no (Or.inl rfl)
  · rw [er_if_f h1]
    have hon : er_obd b r c := Classical.byContradiction (fun z => h1 (Or.inl z))
    obtain ⟨x0, x1, -⟩ := er_obd_pl hv hon
    have hk := hv.2.2.2.2.2.2.2.2.1 _ x0 x1
    by_cases h2 : er_bk b (6 * r + c) = v
    · rw [er_if_t h2]; exact er_ed_no (Or.inr rfl)
    · rw [er_if_f h2]; exact er_ed_yes hk.1 (by omega)
theorem er_ed_Chan (hv : er_BV b) (v : Int) : er_ed b H (er_aChan b H v) := by
  unfold er_aChan
  have h5 := hv.2.2.2.2
  by_cases h1 : v < 0 ∨ 5 < v
  · rw [er_if_t h1]; exact er_ed_no (Or.inl rfl)
  · rw [er_if_f h1]; exact er_ed_yes h5.1 (by omega)
theorem er_ed_Tile (hv : er_BV b) (v : Int) : er_ed b H (er_aTile b H v) := by
  unfold er_aTile
  have h5 := hv.2.2.2.2.2.2
  by_cases h1 : v < 0 ∨ 9 < v
  · rw [er_if_t h1]; exact er_ed_no (Or.inl rfl)
  · rw [er_if_f h1]; exact er_ed_yes h5.1 (by omega)
theorem er_ed_Pair (r1 c1 r2 c2 : Int) : er_ed b H (er_aPair b H r1 c1 r2 c2) := by
  unfold er_aPair
  by_cases h1 : ¬ er_obd b r1 c1 ∨ ¬ er_obd b r2 c2 ∨ ¬ er_adj r1 c1 r2 c2
  · rw [er_if_t h1]; exact er_ed_no (Or.inl rfl)
  · rw [er_if_f h1]
    by_cases h2 : ¬ er_fre b (6 * r1 + c1) ∨ ¬ er_fre b (6 * r2 + c2)
    · rw [er_if_t h2]; exact er_ed_no (Or.inr rfl)
    · rw [er_if_f h2]
      have := er_npair_bd (er_b_pair b (6 * r1 + c1) (6 * r2 + c2))
      exact er_ed_yes this.1 (by omega)
theorem er_ed_Free (r c : Int) : er_ed b H (er_aFree b H r c) := by
  unfold er_aFree
  by_cases h1 : ¬ er_obd b r c
  · rw [er_if_t h1]; exact er_ed_no (Or.inl rfl)
  · rw [er_if_f h1]
    by_cases h2 : er_bp b (6 * r + c) = -1
    · rw [er_if_t h2]; exact er_ed_no (Or.inr rfl)
    · rw [er_if_f h2]
      have := er_npair_bd (er_b_free b (6 * r + c))
      exact er_ed_yes this.1 (by omega)
theorem er_ed_Sel (hv : er_BV b) (r c : Int) : er_ed b H (er_aSel b H r c) := by
  unfold er_aSel
  by_cases h1 : ¬ er_obd b r c
  · rw [er_if_t h1]; exact er_ed_no (Or.inl rfl)
  · rw [er_if_f h1]
    by_cases h2 : er_bk b (6 * r + c) ≠ 1 ∨ er_bs b (6 * r + c) ≠ 0
    · rw [er_if_t h2]; exact er_ed_no (Or.inr rfl)
    · rw [er_if_f h2]
      have := er_nsel_bd (er_BV_sel hv (x := 6 * r + c) (v := 1) (Or.inr ⟨rfl, Classical.byContradiction (fun z => h2 (Or.inl z))⟩))
      exact er_ed_yes this.1 (by omega)
theorem er_ed_Des (hv : er_BV b) (r c : Int) : er_ed b H (er_aDes b H r c) := by
  unfold er_aDes
  by_cases h1 : ¬ er_obd b r c
  · rw [er_if_t h1]; exact er_ed_no (Or.inl rfl)
  · rw [er_if_f h1]
    by_cases h2 : er_bs b (6 * r + c) = 0
    · rw [er_if_t h2]; exact er_ed_no (Or.inr rfl)
    · rw [er_if_f h2]
      have := er_nsel_bd (er_BV_sel hv (x := 6 * r + c) (v := 0) (Or.inl rfl))
      exact er_ed_yes this.1 (by omega)
theorem er_ed_Wipe (hv : er_BV b) : er_ed b H (er_aWipe b H) := by
  unfold er_aWipe
  by_cases h1 : er_nsel b = 0
  · rw [er_if_t h1]; exact er_ed_no (Or.inr rfl)
  · rw [er_if_f h1]
    have := er_nsel_bd hv
    exact er_ed_yes this.1 (by omega)
theorem sp_L_does {v : Int} {Q : Int → er_M → Prop} (h : er_CI m b H n f c0) (hQ : ∀ m' a, er_ed b H a → er_CI m' a.2.1 a.2.2 n f c0 → er_kp er_cf m m' → Q a.1 m') : er_SI K mi_L_does [.inr 1, .inl v] m Q := by
  have hv := h.1.2.1
  have hR := hv.1
  have hR6 := hv.2.1
  have hC := hv.2.2.1
  have hC6 := hv.2.2.2.1
  refine vc_L_does (fun y1 i1 => sp_R_rows h (sp_L_low (by omega) (by omega) (fun r r0 r1 => fun y7 i7 => sp_R_columns h (sp_L_low (by omega) (by omega) (fun c c0 c1 => fun y13 g0 g1 => ?_)))))
  have ir : er_in r := ⟨by omega, by omega⟩
  have ic : er_in c := ⟨by omega, by omega⟩
  have kind : ∀ y : Int, er_in y → er_SI K mi_L_low [.inl y, .inl 4] m (fun v19 m18 => er_SI K mi_R_setKind [.inr 1, .inl r, .inl c, .inl v19] m18 (fun v21 m20 => Q v21 m20)) := fun y _ => sp_L_low (by decide) (by decide) (fun x x0 x1 => sp_R_setKind h ir ic ⟨by omega, by omega⟩ (fun m' a ha q k => hQ m' a (ha ▸ er_ed_Kind hv _ _ _) q k))
  have sel : er_SI K mi_R_select [.inr 1, .inl r, .inl c] m (fun v57 m56 => Q v57 m56) := sp_R_select h ir ic (fun m' a ha q k => hQ m' a (ha ▸ er_ed_Sel hv _ _) q k)
  have pair : ∀ r2 c2 : Int, er_in r2 → er_in c2 → er_SI K mi_R_makePair [.inr 1, .inl r, .inl c, .inl r2, .inl c2] m (fun v57 m56 => Q v57 m56) := fun r2 c2 i3 i4 => sp_R_makePair h ir ic i3 i4 (fun m' a ha q k => hQ m' a (ha ▸ er_ed_Pair _ _ _ _) q k)
  refine ⟨fun _ => kind, fun _ => kind, fun _ => fun y _ => sp_L_low (by decide) (by decide) (fun x x0 x1 => sp_R_setChan h ⟨by omega, by omega⟩ (fun m' a ha q k => hQ m' a (ha ▸ er_ed_Chan hv _) q k)), fun _ => fun y _ => sp_L_low (by decide) (by decide) (fun x x0 x1 => sp_R_setTile h ⟨by omega, by omega⟩ (fun m' a ha q k => hQ m' a (ha ▸ er_ed_Tile hv _) q k)), fun _ => pair _ _ ir ⟨by omega, by omega⟩, fun _ => pair _ _ ir ⟨by omega, by omega⟩, fun _ => pair _ _ ⟨by omega, by omega⟩ ic, fun _ => sp_R_breakPair h ir ic (fun m' a ha q k => hQ m' a (ha ▸ er_ed_Free _ _) q k), fun _ => sp_R_deselect h ir ic (fun m' a ha q k => hQ m' a (ha ▸ er_ed_Des hv _ _) q k), fun _ => fun y50 _ => fun y52 _ _ => ⟨fun _ => sel, fun _ => sp_R_clearSelection h (fun m' a ha q k => hQ m' a (ha ▸ er_ed_Wipe hv) q k)⟩, fun _ => sel⟩
theorem sp_L_holds {Q : Int → er_M → Prop} (h : er_CI m b H n f c0) (hc0 : c0 < 1998800000) (hQ : ∀ m', er_CI m' b H n f (c0 + 120000) → er_kp er_cf m m' → Q 1 m') : er_SI K mi_L_holds [.inr 1] m Q := by
  have hv := h.1.2.1
  have hsb := er_sig_bd b
  have hqc := er_qCount_in b 2
  refine vc_L_holds (sp_R_layerCount h (by omega) (by decide) (fun m1 h1 k1 => sp_R_lowerBound h1 (by omega) (fun m2 v hvv h2 k2 => sp_R_escapeCount h2 (by omega) (fun m3 x rm hx h3 k3 => sp_R_signalCount h3 ?_))))
  have e1 := er_sel_le hv hx
  have e2 := er_bound_z hvv
  have e3 := er_bound_le (s := 2) hv (by decide) hvv
  have thr : er_SI K mi_R_throughput [.inr 1] m3 (fun v10 m9 => (er_in v10) ∧ (((v10 < 0 → Q 0 m9) ∧ (0 ≤ v10 → Q 1 m9)))) := sp_R_throughput h3 (by omega) (fun m4 x4 rm4 q1 q2 q3 q4 q5 => ⟨⟨by omega, by omega⟩, fun hlt => by omega, fun _ => hQ m4 (q4.up (by omega)) (((k1.tr k2).tr k3).tr q5)⟩)
  have last : wp_L_holds_35 K v m3 Q := vc_L_holds_35 (sp_R_signalCount h3 ⟨⟨by omega, by omega⟩, fun hnz => ⟨⟨by omega, by omega⟩, fun _ => thr, fun hz => absurd (e2.1.mpr hz) hnz⟩, fun hz => ⟨⟨by omega, by omega⟩, fun hnz => absurd (e2.1.mp hz) hnz, fun _ => thr⟩⟩)
  exact ⟨⟨by omega, by omega⟩, ⟨by omega, by omega⟩, fun hlt => by omega, fun _ => ⟨⟨by omega, by omega⟩, fun _ => last, fun h0 => ⟨⟨by omega, by omega⟩, fun hneg => by have := e3 h0; omega, fun _ => ⟨fun hlt => by have := e3 h0; omega, fun _ => last⟩⟩⟩⟩
theorem sp_L_signals {R C : Nat} {Q : Int → er_M → Prop} (hR : m 83 60 = (R : Int)) (hC : m 83 61 = (C : Int)) (R6 : R ≤ 6) (C6 : C ≤ 6) (hk : ∀ r c : Nat, r < R → c < C → er_in (m 83 (6 * (r : Int) + c))) (hQ : Q (er_sum R (fun r => er_sum C (fun c => er_ic (m 83 (6 * (r : Int) + c) = 1)))) m) : er_SI K mi_L_signals [.inr 83] m Q := by
  have inner : ∀ (r : Nat) (s : Int), r < R → wp_L_signals_4 K (s + er_sum C (fun c => er_ic (m 83 (6 * (r : Int) + c) = 1))) ((r : Int) + 1) m Q → ∀ (d c : Nat), c + d = C → wp_L_signals_14 K (s + er_sum c (fun c => er_ic (m 83 (6 * (r : Int) + c) = 1))) (r : Int) (c : Int) m Q := by
    intro r s hr hnext d
    induction d with
    | zero =>
      intro c hc
      refine vc_L_signals_14 ⟨⟨by omega, by omega⟩, ⟨by omega, by omega⟩, fun _ => ?_, fun hlt => by omega⟩
      rw [show c = C by omega]
      exact hnext
    | succ d ih =>
      intro c hc
      have i2 := ih (c + 1) (by omega)
      have e : er_sum (c + 1) (fun c => er_ic (m 83 (6 * (r : Int) + c) = 1)) = er_sum c (fun c => er_ic (m 83 (6 * (r : Int) + c) = 1)) + er_ic (m 83 (6 * (r : Int) + c) = 1) := rfl
      rw [e, show ((c + 1 : Nat) : Int) = (c : Int) + 1 by omega] at i2
      refine vc_L_signals_14 ⟨⟨by omega, by omega⟩, ⟨by omega, by omega⟩, fun hle => by omega, fun _ => ⟨by omega, by omega, hk r c hr (by omega), fun hne => ?_, fun he => ?_⟩⟩
      · rw [er_ic_f hne] at i2
        rw [Int.add_assoc]
        exact i2
      · rw [er_ic_t he] at i2
        rw [Int.add_assoc]
        exact i2
  have outer : ∀ (d r : Nat), r + d = R → wp_L_signals_4 K (er_sum r (fun r => er_sum C (fun c => er_ic (m 83 (6 * (r : Int) + c) = 1)))) (r : Int) m Q := by
    intro d
    induction d with
    | zero =>
      intro r hr
      refine vc_L_signals_4 ⟨⟨by omega, by omega⟩, ⟨by omega, by omega⟩, fun _ => ?_, fun hlt => by omega⟩
      rw [show r = R by omega]
      exact hQ
    | succ d ih =>
      intro r hr
      refine vc_L_signals_4 ⟨⟨by omega, by omega⟩, ⟨by omega, by omega⟩, fun hle => by omega, fun _ => ?_⟩
      have i2 := ih (r + 1) (by omega)
      rw [show ((r + 1 : Nat) : Int) = (r : Int) + 1 by omega] at i2
      have := inner r _ (by omega) i2 C 0 (by omega)
      rw [show er_sum 0 (fun c => er_ic (m 83 (6 * (r : Int) + c) = 1)) = 0 from rfl, Int.add_zero] at this
      exact this
  exact vc_L_signals (outer R 0 (by omega))
/-! a grid is typed -/
theorem er_CI.hh {m' : er_M} (h : er_CI m b H n f c0) (hk : er_kp (fun c _ => c = 83) m m') : er_CI m' b H n f c0 := h.kq hk (fun q k z => by omega) (h.1.2.2.2.kp hk (by omega) (fun k => by omega))
/-- these n characters have been read, and this is the state -/
def er_prx (f : Int → Int) (n : Nat) (st : er_pst) : Prop := ∀ (g : Int → Int) (d : Nat), (∀ j : Int, 0 ≤ j → j < n → g j = f j) → er_rd g (n + d) 0 er_st0 = er_rd g d n st
theorem er_prx_0 (f : Int → Int) : er_prx f 0 er_st0 := fun g d _ => by rw [Nat.zero_add]
theorem er_prx_add {f : Int → Int} {n : Nat} {st st' : er_pst} {v : Int} (h : er_prx f n st) (hs : er_stp v st = some st') : er_prx (er_u f n v) (n + 1) st' := by
  intro g d hg
  have e1 := h g (1 + d) (fun j j0 j1 => by rw [hg j j0 (by omega), er_u_n (by omega)])
  rw [show n + 1 + d = n + (1 + d) by omega, e1, show 1 + d = d + 1 by omega]
  simp only [er_rd]
  have e2 : g (n : Int) = v := by rw [hg n (by omega) (by omega), er_u_s]
  rw [e2, hs]
theorem er_stp_pin {ch v : Int} {r Cc c : Nat} {k : Int → Int} (h : (ch = 46 ∧ v = 0) ∨ (ch = 112 ∧ v = 2) ∨ (ch = 115 ∧ v = 1)) (hr : r < 6) (hc : c < Cc) : er_stp ch (r, Cc, c, k) = some (r, Cc, c + 1, er_u k (6 * (r : Int) + c) v) := by
  have e : er_pk ch = v := by rcases h with ⟨rfl, rfl⟩ | ⟨rfl, rfl⟩ | ⟨rfl, rfl⟩ <;> decide
  unfold er_stp
  rw [if_neg (by omega), if_neg (show ¬ 6 ≤ r by omega), if_neg (by omega), if_pos ⟨by rw [e]; omega, hc⟩, e]
theorem er_stp_row {r Cc c : Nat} {k : Int → Int} (hr : r < 6) (hc : (r = 0 ∧ 0 < c) ∨ (r ≠ 0 ∧ c = Cc)) : er_stp 59 (r, Cc, c, k) = some (r + 1, c, 0, k) := by
  unfold er_stp
  rw [if_neg (by decide), if_neg (show ¬ 6 ≤ r by omega), if_pos rfl, if_pos hc]
/-- what is written so far: rows up to r, of row r the places up to c -/
def er_tw (C r c : Nat) (m : er_M) (k : Int → Int) : Prop := ∀ j : Int, 0 ≤ j → j < 36 → (((j / 6 < r ∧ j % 6 < C) ∨ (j / 6 = r ∧ j % 6 < c)) → m 83 j = k j ∧ 0 ≤ k j ∧ k j ≤ 2) ∧ (¬ ((j / 6 < r ∧ j % 6 < C) ∨ (j / 6 = r ∧ j % 6 < c)) → k j = 0)
theorem er_aApp_ok {n : Nat} {f : Int → Int} {v : Int} (h0 : 0 ≤ v) (h1 : v ≤ 255) (hn : n < 60) : er_aApp n f v = ((n : Int) + 1, n + 1, er_u f n v) := by
  unfold er_aApp
  rw [er_if_f (by omega), er_if_f (by omega)]
theorem sp_L_types {Q : er_M → Prop} (hL : K.2.2.2.2.2.1 ≤ 260) (h : er_CI m b H n f c0) (hQ : ∀ (m' : er_M) (R C N : Nat) (k f' : Int → Int), 1 ≤ R → R ≤ 6 → 1 ≤ C → C ≤ 6 → m' 83 60 = (R : Int) → m' 83 61 = (C : Int) → er_tw C R 0 m' k → er_prx f' N (R, C, 0, k) → er_CI m' b H N f' c0 → Q m') : er_SV K mi_L_types [.inr 1, .inr 0, .inl 50, .inr 83] m Q := by
  have inner : ∀ (R C r : Nat) (x6 : Int), 1 ≤ C → C ≤ 6 → r < R → R ≤ 6 → (∀ (m1 : er_M) (n1 : Nat) (f1 k : Int → Int), er_CI m1 b H n1 f1 c0 → m1 83 60 = (R : Int) → m1 83 61 = (C : Int) → n1 ≤ 7 * (r + 1) → er_prx f1 n1 (r + 1, C, 0, k) → er_tw C (r + 1) 0 m1 k → wp_L_types_43 K 50 ((r : Int) + 1) m1 Q) → ∀ (d c : Nat) (m1 : er_M) (n1 : Nat) (f1 k : Int → Int), c + d = C → er_CI m1 b H n1 f1 c0 → m1 83 60 = (R : Int) → m1 83 61 = (C : Int) → n1 ≤ 7 * r + c → er_prx f1 n1 (r, (if r = 0 then 6 else C), c, k) → er_tw C r c m1 k → wp_L_types_67 K 50 (r : Int) x6 (c : Int) m1 Q := by
    intro R C r x6 C1 C6 hr R6 hnext d
    induction d with
    | zero =>
      intro c m1 n1 f1 k hc hci hR hC hn hp hw
      have ec : c = C := by omega
      subst ec
      refine vc_L_types_67 ⟨⟨by omega, by omega⟩, ⟨by omega, by omega⟩, fun _ => ?_, fun hlt => by omega⟩
      refine sp_R_append hci (by decide) (fun m2 a ha q1 k1 => ?_)
      rw [ha, er_aApp_ok (by decide) (by decide) (by omega)] at q1
      refine hnext m2 _ _ k q1 (by rw [k1 83 60 (by unfold er_cf; omega)]; exact hR) (by rw [k1 83 61 (by unfold er_cf; omega)]; exact hC) (by show n1 + 1 ≤ _; omega) (er_prx_add hp (er_stp_row (by omega) ?_)) (fun j j0 j1 => ?_)
      · by_cases hz : r = 0
        · exact Or.inl ⟨hz, by omega⟩
        · rw [if_neg hz]; exact Or.inr ⟨hz, rfl⟩
      · rw [k1 83 j (by unfold er_cf; omega)]
        have := hw j j0 j1
        exact ⟨fun z => this.1 (by omega), fun z => this.2 (by omega)⟩
    | succ d ih =>
      intro c m1 n1 f1 k hc hci hR hC hn hp hw
      have put : ∀ (v ch : Int), ((ch = 46 ∧ v = 0) ∨ (ch = 112 ∧ v = 2) ∨ (ch = 115 ∧ v = 1)) → ∀ m15, m15 = er_st m1 83 (6 * (r : Int) + c) v → er_SI K mi_R_appendCharacter [.inr 1, .inl ch] m15 (fun _ m18 => wp_L_types_67 K 50 (r : Int) x6 ((c : Int) + 1) m18 Q) := by
        intro v ch hch m15 e15
        have k15 : er_kp (fun c _ => c = 83) m1 m15 := by rw [e15]; exact er_kp.st rfl
        refine sp_R_append (hci.hh k15) ⟨by omega, by omega⟩ (fun m2 a ha q1 k1 => ?_)
        rw [ha, er_aApp_ok (by omega) (by omega) (by omega)] at q1
        rw [show (c : Int) + 1 = ((c + 1 : Nat) : Int) by omega]
        have k2 : ∀ j, m2 83 j = er_st m1 83 (6 * (r : Int) + c) v 83 j := fun j => by rw [k1 83 j (by unfold er_cf; omega), e15]
        refine ih (c + 1) m2 _ _ (er_u k (6 * (r : Int) + c) v) (by omega) q1 (by rw [k2, er_st_k (by omega)]; exact hR) (by rw [k2, er_st_k (by omega)]; exact hC) (by show n1 + 1 ≤ _; omega) (er_prx_add hp (er_stp_pin hch (by omega) (by split <;> omega))) (fun j j0 j1 => ?_)
        rw [k2]
        have := hw j j0 j1
        by_cases hj : j = 6 * (r : Int) + c
        · rw [hj, er_st_s, er_u_s]
          exact ⟨fun _ => ⟨rfl, by omega, by omega⟩, fun z => absurd (Or.inr ⟨by omega, by omega⟩) z⟩
        · rw [er_st_k hj, er_u_n hj]
          exact ⟨fun z => this.1 (by omega), fun z => this.2 (by omega)⟩
      refine vc_L_types_67 ⟨⟨by omega, by omega⟩, ⟨by omega, by omega⟩, fun hle => by omega, fun _ => fun y6 _ => fun y8 g0 g1 => ⟨fun h5 => ⟨fun hne => ⟨by omega, by omega, fun m15 e15 => ⟨fun _ => ⟨fun _ => put 0 46 (Or.inl ⟨rfl, rfl⟩) m15 e15, fun z => absurd z hne⟩, fun z => by omega⟩⟩, fun he => ⟨by omega, by omega, fun m15 e15 => ⟨fun _ => ⟨fun z => absurd he z, fun _ => put 2 112 (Or.inr (Or.inl ⟨rfl, rfl⟩)) m15 e15⟩, fun z => by omega⟩⟩⟩, fun h5 => ⟨by omega, by omega, fun m15 e15 => ⟨fun z => by omega, fun _ => put 1 115 (Or.inr (Or.inr ⟨rfl, rfl⟩)) m15 e15⟩⟩⟩⟩
  have outer : ∀ (R C : Nat), 1 ≤ R → R ≤ 6 → 1 ≤ C → C ≤ 6 → ∀ (d r : Nat) (m1 : er_M) (n1 : Nat) (f1 k : Int → Int), r + d = R → er_CI m1 b H n1 f1 c0 → m1 83 60 = (R : Int) → m1 83 61 = (C : Int) → n1 ≤ 7 * r → er_prx f1 n1 (r, (if r = 0 then 6 else C), 0, k) → er_tw C r 0 m1 k → wp_L_types_43 K 50 (r : Int) m1 Q := by
    intro R C R1 R6 C1 C6 d
    induction d with
    | zero =>
      intro r m1 n1 f1 k hr hci hR hC hn hp hw
      have er : r = R := by omega
      subst er
      rw [if_neg (by omega)] at hp
      exact vc_L_types_43 ⟨⟨by omega, by omega⟩, ⟨by omega, by omega⟩, fun _ => hQ m1 r C n1 k f1 R1 R6 C1 C6 hR hC hw hp hci, fun hlt => by omega⟩
    | succ d ih =>
      intro r m1 n1 f1 k hr hci hR hC hn hp hw
      refine vc_L_types_43 ⟨⟨by omega, by omega⟩, ⟨by omega, by omega⟩, fun hle => by omega, fun _ => sp_L_cell hL (by omega) (by omega) (fun y => ?_)⟩
      refine inner R C r y C1 C6 (by omega) R6 (fun m2 n2 f2 k2 a1 a2 a3 a4 a5 a6 => ?_) C 0 m1 n1 f1 k (by omega) hci hR hC (by omega) hp hw
      rw [show (r : Int) + 1 = ((r + 1 : Nat) : Int) by omega]
      exact ih (r + 1) m2 n2 f2 k2 (by omega) a1 a2 a3 a4 (by rw [if_neg (by omega)]; exact a5) a6
  refine vc_L_types (sp_L_cell hL (by omega) (by omega) (fun v => sp_L_low (by decide) (by decide) (fun a a0 a1 => fun m5 e5 => fun y6 _ => sp_L_low (by decide) (by decide) (fun a9 b0 b1 => fun m10 e10 => ?_))))
  have k10 : er_kp (fun c _ => c = 83) m m10 := by rw [e10, e5]; exact (er_kp.st rfl).tr (er_kp.st rfl)
  refine sp_R_clearText (h.hh k10) (fun m11 q1 k1 => ?_)
  obtain ⟨R, hR⟩ : ∃ R : Nat, (R : Int) = 1 + a := ⟨(1 + a).toNat, by omega⟩
  obtain ⟨C, hC⟩ : ∃ C : Nat, (C : Int) = 1 + a9 := ⟨(1 + a9).toNat, by omega⟩
  refine outer R C (by omega) (by omega) (by omega) (by omega) R 0 m11 0 f (fun _ => 0) (by omega) q1 ?_ ?_ (by omega) (er_prx_0 f) (fun j j0 j1 => ⟨fun z => by omega, fun _ => rfl⟩)
  · rw [k1 83 60 (by unfold er_cf; omega), e10, er_st_k (by decide), e5, er_st_s, hR]
  · rw [k1 83 61 (by unfold er_cf; omega), e10, er_st_s, hC]
/-- what is typed is loaded -/
theorem er_typed {R C N : Nat} {k f' : Int → Int} {m' : er_M} (R1 : 1 ≤ R) (R6 : R ≤ 6) (C6 : C ≤ 6) (hw : er_tw C R 0 m' k) (hp : er_prx f' N (R, C, 0, k)) : er_aLoad b H N f' = (er_sum R (fun r => er_sum C (fun c => er_ic (m' 83 (6 * (r : Int) + c) = 1))), er_b_grid b (R, C, 0, k), er_push H b, 0) := by
  have e := hp f' 0 (fun _ _ _ => rfl)
  rw [Nat.add_zero] at e
  have e2 : er_rd f' 0 N (R, C, 0, k) = (-1, (R, C, 0, k)) := by
    simp only [er_rd]
    rw [if_pos ⟨by omega, trivial⟩]
  unfold er_aLoad
  rw [e, e2, er_if_t rfl]
  have e3 : er_sig (er_b_grid b (R, C, 0, k)) = er_sum R (fun r => er_sum C (fun c => er_ic (m' 83 (6 * (r : Int) + c) = 1))) := by
    show er_sum 36 (fun p => er_ic (k (p : Int) = 1)) = _
    rw [← er_sum_grid R6 C6 (fun p => er_ic (k (p : Int) = 1)) (fun p hp hn => er_ic_f (by
      have := (hw (p : Int) (by omega) (by omega)).2 (by omega)
      omega))]
    refine er_sum_congr (fun r hr => er_sum_congr (fun c hc => er_ic_iff ?_))
    have := (hw (6 * (r : Int) + c) (by omega) (by omega)).1 (by omega)
    rw [show ((6 * r + c : Nat) : Int) = 6 * (r : Int) + c by omega, this.1]
  rw [e3]
end ERH
