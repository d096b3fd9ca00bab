/-! the reference's edits -/
theorem er_lays_bd (b : er_Bo) (seq : List Nat) : ∀ (k : Nat) (l : Int) (f : Int → Int) (left : Int), 1 ≤ l → 0 ≤ (er_lays b seq k l f left).2.1 ∧ ((er_lays b seq k l f left).2.2 = 1 → (er_lays b seq k l f left).2.1 ≤ l + k - 2) := by
  intro k
  induction k with
  | zero => intro l f left hl; exact ⟨by show 0 ≤ l - 1; omega, fun z => absurd z (by show ¬ (0 : Int) = 1; decide)⟩
  | succ k ih =>
    intro l f left hl
    simp only [er_lays]
    by_cases h1 : left ≤ 0
    · rw [if_pos h1]; exact ⟨by show 0 ≤ l - 1; omega, fun _ => by show l - 1 ≤ _; omega⟩
    · rw [if_neg h1]
      by_cases h2 : (er_put b (er_opn b f) l seq [] f []).2 = []
      · rw [er_if_t h2]; exact ⟨by show 0 ≤ l - 1; omega, fun z => absurd z (by show ¬ (0 : Int) = 1; decide)⟩
      · rw [er_if_f h2]
        have := ih (l + 1) (er_put b (er_opn b f) l seq [] f []).1 (left - ((er_put b (er_opn b f) l seq [] f []).2.length : Int)) (by omega)
        exact ⟨this.1, fun z => by have := this.2 z; omega⟩
theorem er_lay_bd (b : er_Bo) (s : Nat) : 0 ≤ (er_lay b s).2.1 ∧ ((er_lay b s).2.2 = 1 → (er_lay b s).2.1 ≤ 36) := er_lays_bd b _ 37 1 _ _ (by decide)
theorem er_best_big (b : er_Bo) : ∀ (d k : Nat) (best f1 f2 : Int), 37 ≤ f1 → 37 ≤ f2 → er_best b d k best f1 = er_best b d k best f2 := by
  intro d
  induction d with
  | zero => intro _ _ _ _ _ _; rfl
  | succ d ih =>
    intro k best f1 f2 h1 h2
    have hb := er_lay_bd b k
    simp only [er_best]
    by_cases hc : (er_lay b k).2.2 = 1
    · have := hb.2 hc
      rw [er_if_t ⟨hc, by omega⟩, er_if_t ⟨hc, by omega⟩]
    · rw [er_if_f (fun z => hc z.1), er_if_f (fun z => hc z.1)]
      exact ih _ _ _ _ h1 h2
/-- a board as a row -/
def er_row (b : er_Bo) (k : Int) : Int := if k = 0 then (er_bR b : Int) else if k = 1 then (er_bC b : Int) else if k = 2 then er_bh b else if k = 3 then er_bt b else if k < 40 then er_bk b (k - 4) else if k < 76 then er_bp b (k - 40) + 1 else er_bs b (k - 76)
theorem er_row_3 (b : er_Bo) (j : Int) (j0 : 0 ≤ j) (j1 : j < 36) : er_row b (4 + j) = er_bk b j ∧ er_row b (40 + j) = er_bp b j + 1 ∧ er_row b (76 + j) = er_bs b j := by
  unfold er_row
  refine ⟨?_, ?_, ?_⟩
  · rw [if_neg (by omega), if_neg (by omega), if_neg (by omega), if_neg (by omega), if_pos (by omega), show 4 + j - 4 = j by omega]
  · rw [if_neg (by omega), if_neg (by omega), if_neg (by omega), if_neg (by omega), if_neg (by omega), if_pos (by omega), show 40 + j - 40 = j by omega]
  · rw [if_neg (by omega), if_neg (by omega), if_neg (by omega), if_neg (by omega), if_neg (by omega), if_neg (by omega), show 76 + j - 76 = j by omega]
theorem er_RB_row {m : er_M} {b : er_Bo} (h : er_RB m b) (k : Int) (k0 : 0 ≤ k) (k1 : k < 112) : m 84 k = er_row b k := by
  obtain ⟨⟨h0, h1, h2, h3, -⟩, h4⟩ := h
  by_cases c0 : k = 0
  · rw [c0]; exact h0
  · by_cases c1 : k = 1
    · rw [c1]; exact h1
    · by_cases c2 : k = 2
      · rw [c2]; exact h2
      · by_cases c3 : k = 3
        · rw [c3]; exact h3
        · by_cases c4 : k < 40
          · rw [show k = 4 + (k - 4) by omega, (er_row_3 b (k - 4) (by omega) (by omega)).1]; exact (h4 (k - 4) (by omega) (by omega)).1
          · by_cases c5 : k < 76
            · rw [show k = 40 + (k - 40) by omega, (er_row_3 b (k - 40) (by omega) (by omega)).2.1]; exact (h4 (k - 40) (by omega) (by omega)).2.1
            · rw [show k = 76 + (k - 76) by omega, (er_row_3 b (k - 76) (by omega) (by omega)).2.2]; exact (h4 (k - 76) (by omega) (by omega)).2.2
theorem er_RB_of {m : er_M} {b : er_Bo} (hv : er_BV b) (h : ∀ k : Int, 0 ≤ k → k < 112 → m 84 k = er_row b k) : er_RB m b :=
  ⟨⟨h 0 (by decide) (by decide), h 1 (by decide) (by decide), h 2 (by decide) (by decide), h 3 (by decide) (by decide), hv.1, hv.2.1, hv.2.2.1, hv.2.2.2.1, hv.2.2.2.2.1, hv.2.2.2.2.2.1, hv.2.2.2.2.2.2.1, hv.2.2.2.2.2.2.2.1⟩, fun j j0 j1 => by
    obtain ⟨a1, a2, a3⟩ := er_row_3 b j j0 j1
    exact ⟨by rw [h _ (by omega) (by omega), a1], by rw [h _ (by omega) (by omega), a2], by rw [h _ (by omega) (by omega), a3]⟩⟩
/-- the reference's history -/
def er_MH (m : er_M) (H : List er_Bo) : Prop := m 83 2 = (H.length : Int) ∧ H.length ≤ 8 ∧ (∀ x ∈ H, er_BV x) ∧ ∀ (j : Nat) (hj : j < H.length) (k : Int), 0 ≤ k → k < 112 → m 85 (112 * (j : Int) + k) = er_row H[j] k
theorem er_MH.kp {F : Nat → Int → Prop} {m m' : er_M} {H : List er_Bo} (h : er_MH m H) (hk : er_kp F m m') (h1 : ∀ k, ¬ F 85 k) (h2 : ¬ F 83 2) : er_MH m' H :=
  ⟨by rw [hk _ _ h2]; exact h.1, h.2.1, h.2.2.1, fun j hj k k0 k1 => by rw [hk _ _ (h1 _)]; exact h.2.2.2 j hj k k0 k1⟩
theorem er_TM.kp {F : Nat → Int → Prop} {m m' : er_M} {n : Nat} {f : Int → Int} (h : er_TM m n f) (hk : er_kp F m m') (h1 : ¬ F 83 4) (h2 : ∀ k, ¬ F 86 k) : er_TM m' n f :=
  ⟨h.1, by rw [hk _ _ h1]; exact h.2.1, fun j j0 j1 => by rw [hk _ _ (h2 j)]; exact h.2.2 j j0 j1⟩
/-- what holds of the reference's cells between calls -/
def er_MI (m : er_M) (b : er_Bo) (H : List er_Bo) (n : Nat) (f : Int → Int) : Prop := er_RB m b ∧ er_BV b ∧ er_MH m H ∧ er_TM m n f
def er_mf : Nat → Int → Prop := fun c _ => 83 ≤ c
theorem er_MI.kp {F : Nat → Int → Prop} {m m' : er_M} {b : er_Bo} {H : List er_Bo} {n : Nat} {f : Int → Int} (h : er_MI m b H n f) (hk : er_kp F m m') (h1 : ∀ c k, 84 ≤ c → c ≤ 86 → ¬ F c k) (h2 : ¬ F 83 2) (h3 : ¬ F 83 4) : er_MI m' b H n f :=
  ⟨h.1.kp hk (fun k => h1 84 k (by decide) (by decide)), h.2.1, h.2.2.1.kp hk (fun k => h1 85 k (by decide) (by decide)) h2, h.2.2.2.kp hk h3 (fun k => h1 86 k (by decide) (by decide))⟩
theorem er_MI_new {m m' : er_M} {b : er_Bo} {H : List er_Bo} {n : Nat} {f : Int → Int} (h1 : er_RB m' b) (h2 : er_BV b) (h3 : er_MH m' H) (h4 : er_TM m' n f) : er_MI m' b H n f := ⟨h1, h2, h3, h4⟩
section ERME
variable {K : er_K} {m : er_M} {b : er_Bo}
theorem sp_M_in {v lo hi : Int} {Q : Int → er_M → Prop} (i1 : er_in v) (i2 : er_in lo) (i3 : er_in hi) (h1 : lo ≤ v ∧ v ≤ hi → Q 1 m) (h0 : ¬ (lo ≤ v ∧ v ≤ hi) → Q 0 m) : er_SI K mi_M_in [.inl v, .inl lo, .inl hi] m Q :=
  vc_M_in ⟨i1, i2, fun z => h0 (fun w => by omega), fun z => ⟨i3, fun y => h0 (fun w => by omega), fun y => h1 ⟨z, y⟩⟩⟩
theorem sp_M_isPosition {r c : Int} {Q : Int → er_M → Prop} (hv : er_BV b) (hb : er_RB m b) (i1 : er_in r) (i2 : er_in c) (h1 : er_obd b r c → Q 1 m) (h0 : ¬ er_obd b r c → Q 0 m) : er_SI K mi_M_isPosition [.inr 83, .inl r, .inl c] m Q := by
  have g0 := hb.1.1
  have g1 := hb.1.2.1
  have hR := hv.2.1
  have hC := hv.2.2.2.1
  unfold er_obd at h1 h0
  refine vc_M_isPosition (sp_M_in i1 (by decide) ⟨by omega, by omega⟩ (fun a => ⟨by decide, fun z => absurd z (by decide), fun _ => sp_M_in i2 (by decide) ⟨by omega, by omega⟩ (fun a2 => ⟨by decide, fun z => absurd z (by decide), fun _ => h1 ⟨by omega, by omega, by omega, by omega⟩⟩) (fun a2 => ⟨by decide, fun _ => h0 (fun w => a2 (by omega)), fun z => absurd rfl z⟩)⟩) (fun a => ⟨by decide, fun _ => h0 (fun w => a (by omega)), fun z => absurd rfl z⟩))
theorem sp_M_edit {H : List er_Bo} {Q : er_M → Prop} (hv : er_BV b) (hb : er_RB m b) (hh : er_MH m H) (hQ : ∀ m', er_MH m' (er_push H b) → er_kp (fun c k => c = 85 ∨ (c = 83 ∧ k = 2)) m m' → Q m') : er_SV K mi_M_edit [.inr 83] m Q := by
  have add : ∀ (H1 : List er_Bo) (m1 : er_M), er_MH m1 H1 → H1.length < 8 → H1 ++ [b] = er_push H b → er_kp (fun c k => c = 85 ∨ (c = 83 ∧ k = 2)) m m1 → wp_M_edit_51 K 0 m1 Q := by
    intro H1 m1 h1 h8 he k1
    have loop : ∀ (d x : Nat) (m2 : er_M), x + d = 112 → (∀ j : Int, 0 ≤ j → j < 112 * (H1.length : Int) + x → m2 85 j = if j < 112 * (H1.length : Int) then m1 85 j else er_row b (j - 112 * (H1.length : Int))) → er_kp (fun c _ => c = 85) m1 m2 → wp_M_edit_51 K (x : Int) m2 Q := by
      intro d
      induction d with
      | zero =>
        intro x m2 hx hr k2
        have e2 : m2 83 2 = (H1.length : Int) := by rw [k2 83 2 (by decide)]; exact h1.1
        refine vc_M_edit_51 ⟨⟨by omega, by omega⟩, fun _ m3 e3 => ?_, fun hlt => by omega⟩
        refine hQ m3 ?_ (k1.tr ((k2.wk (fun c k z => Or.inl z)).tr (by rw [e3]; exact er_kp.st (Or.inr ⟨rfl, rfl⟩))))
        rw [← he]
        refine ⟨by rw [e3, er_st_s, e2, List.length_append, List.length_singleton]; rfl, by rw [List.length_append, List.length_singleton]; omega, fun y hy => ?_, fun j hj k k0 k1' => ?_⟩
        · rcases List.mem_append.mp hy with z | z
          · exact h1.2.2.1 y z
          · rw [List.mem_singleton.mp z]; exact hv
        · rw [List.length_append, List.length_singleton] at hj
          rw [e3, er_st_c (by decide), hr _ (by omega) (by omega)]
          by_cases hjl : j < H1.length
          · rw [if_pos (by omega), List.getElem_append_left hjl]
            exact h1.2.2.2 j hjl k k0 k1'
          · rw [if_neg (by omega), List.getElem_append_right (by omega)]
            simp only [List.getElem_singleton]
            rw [show 112 * (j : Int) + k - 112 * (H1.length : Int) = k by omega]
      | succ d ih =>
        intro x m2 hx hr k2
        have e2 : m2 83 2 = (H1.length : Int) := by rw [k2 83 2 (by decide)]; exact h1.1
        refine vc_M_edit_51 ⟨⟨by omega, by omega⟩, fun hle => by omega, fun _ => ?_⟩
        rw [e2]
        refine ⟨by omega, by omega, by omega, by omega, fun m8 e8 => ?_⟩
        refine ih (x + 1) m8 (by omega) (fun j j0 j1 => ?_) (k2.tr (by rw [e8]; exact er_kp.st rfl))
        rw [e8]
        by_cases hj : j = 112 * (H1.length : Int) + x
        · rw [hj, er_st_s, if_neg (by omega), k2 84 _ (by omega), k1 84 _ (by omega), er_RB_row hb x (by omega) (by omega), show 112 * (H1.length : Int) + x - 112 * (H1.length : Int) = x by omega]
        · rw [er_st_k hj]; exact hr j j0 (by omega)
    refine loop 112 0 m1 rfl (fun j j0 j1 => ?_) er_kp.rf
    rw [if_pos (by omega)]
  have h1 := hh.1
  have h2 := hh.2.1
  refine vc_M_edit ⟨⟨by omega, by omega⟩, fun hne => ?_, fun he => ?_⟩
  · refine add H m hh (by omega) ?_ er_kp.rf
    unfold er_push
    rw [if_neg (by omega)]
  · have shift : ∀ (d x : Nat) (m1 : er_M), x + d = 784 → (∀ j : Int, 0 ≤ j → j < 896 → m1 85 j = if j < x then m 85 (j + 112) else m 85 j) → er_kp (fun c _ => c = 85) m m1 → wp_M_edit_11 K (x : Int) m1 Q := by
      intro d
      induction d with
      | zero =>
        intro x m1 hx hr k1
        refine vc_M_edit_11 ⟨⟨by omega, by omega⟩, fun _ m3 e3 => ?_, fun hlt => by omega⟩
        have e2 : m1 83 2 = 8 := by rw [k1 83 2 (by decide)]; exact he
        refine add H.tail m3 ⟨by rw [e3, er_st_s, e2, List.length_tail]; omega, by rw [List.length_tail]; omega, fun y hy => hh.2.2.1 y (List.mem_of_mem_tail hy), fun j hj k k0 k1' => ?_⟩ (by rw [List.length_tail]; omega) (by unfold er_push; rw [if_pos (by omega)]) ((k1.wk (fun c k z => Or.inl z)).tr (by rw [e3]; exact er_kp.st (Or.inr ⟨rfl, rfl⟩)))
        rw [List.length_tail] at hj
        rw [e3, er_st_c (by decide), hr _ (by omega) (by omega), if_pos (by omega), show 112 * (j : Int) + k + 112 = 112 * ((j + 1 : Nat) : Int) + k by omega, hh.2.2.2 (j + 1) (by omega) k k0 k1', List.getElem_tail]
      | succ d ih =>
        intro x m1 hx hr k1
        refine vc_M_edit_11 ⟨⟨by omega, by omega⟩, fun hle => by omega, fun _ => ⟨by omega, by omega, by omega, by omega, fun m8 e8 => ?_⟩⟩
        refine ih (x + 1) m8 (by omega) (fun j j0 j1 => ?_) (k1.tr (by rw [e8]; exact er_kp.st rfl))
        rw [e8]
        by_cases hj : j = x
        · rw [hj, er_st_s, hr _ (by omega) (by omega), if_neg (by omega), if_pos (by omega)]
        · rw [er_st_k hj, hr j j0 j1]
          by_cases hjx : j < x
          · rw [if_pos hjx, if_pos (by omega)]
          · rw [if_neg hjx, if_neg (by omega)]
    refine shift 784 0 m rfl (fun j j0 j1 => ?_) er_kp.rf
    rw [if_neg (by omega)]
theorem sp_M_signals {Q : Int → er_M → Prop} (hv : er_BV b) (hb : er_RB m b) (hQ : Q (er_sig b) m) : er_SI K mi_M_signals [.inr 83] m Q := by
  have loop : ∀ (d x : Nat), x + d = 36 → 0 ≤ er_sum x (fun p => er_ic (er_bk b (p : Int) = 1)) → er_sum x (fun p => er_ic (er_bk b (p : Int) = 1)) ≤ x → wp_M_signals_4 K (er_sum x (fun p => er_ic (er_bk b (p : Int) = 1))) (x : Int) m Q := by
    intro d
    induction d with
    | zero =>
      intro x hx s0 s1
      refine vc_M_signals_4 ⟨⟨by omega, by omega⟩, fun _ => ?_, fun hlt => by omega⟩
      rw [show x = 36 by omega]
      exact hQ
    | succ d ih =>
      intro x hx s0 s1
      have h3 := (hb.2 x (by omega) (by omega)).1
      have hkd := hv.2.2.2.2.2.2.2.2.1 x (by omega) (by omega)
      have e : er_sum (x + 1) (fun p => er_ic (er_bk b (p : Int) = 1)) = er_sum x (fun p => er_ic (er_bk b (p : Int) = 1)) + er_ic (er_bk b (x : Int) = 1) := rfl
      have i2 := ih (x + 1) (by omega)
      rw [e] at i2
      refine vc_M_signals_4 ⟨⟨by omega, by omega⟩, fun hle => by omega, fun _ => ⟨by omega, by omega, ⟨by omega, by omega⟩, fun hne => ?_, fun he => ?_⟩⟩
      · rw [er_ic_f (show ¬ er_bk b (x : Int) = 1 by omega)] at i2
        exact i2 (by omega) (by omega)
      · rw [er_ic_t (show er_bk b (x : Int) = 1 by omega)] at i2
        exact i2 (by omega) (by omega)
  exact vc_M_signals (loop 36 0 rfl (Int.le_refl _) (Int.le_refl _))
theorem sp_M_pairs {Q : Int → er_M → Prop} (hv : er_BV b) (hb : er_RB m b) (hQ : Q (er_npair b) m) : er_SI K mi_M_pairs [.inr 83] m Q := by
  have loop : ∀ (d x : Nat), x + d = 36 → 0 ≤ er_sum x (fun p => er_ic (0 ≤ er_bp b (p : Int))) → er_sum x (fun p => er_ic (0 ≤ er_bp b (p : Int))) ≤ x → wp_M_pairs_4 K (er_sum x (fun p => er_ic (0 ≤ er_bp b (p : Int)))) (x : Int) m Q := by
    intro d
    induction d with
    | zero =>
      intro x hx s0 s1
      have hx36 : x = 36 := by omega
      subst hx36
      refine vc_M_pairs_4 ⟨⟨by omega, by omega⟩, fun _ => ⟨s0, by omega, ?_⟩, fun hlt => by omega⟩
      rw [er_npair_2 hv, show 2 * er_npair b / 2 = er_npair b by omega]
      exact hQ
    | succ d ih =>
      intro x hx s0 s1
      have h3 := (hb.2 x (by omega) (by omega)).2.1
      have hp := hv.2.2.2.2.2.2.2.2.2.2.1 (x : Int) (by omega) (by omega)
      have e : er_sum (x + 1) (fun p => er_ic (0 ≤ er_bp b (p : Int))) = er_sum x (fun p => er_ic (0 ≤ er_bp b (p : Int))) + er_ic (0 ≤ er_bp b (x : Int)) := rfl
      have i2 := ih (x + 1) (by omega)
      rw [e] at i2
      refine vc_M_pairs_4 ⟨⟨by omega, by omega⟩, fun hle => by omega, fun _ => ⟨by omega, by omega, by rcases hp with z | z <;> exact ⟨by omega, by omega⟩, fun hne => ?_, fun he => ?_⟩⟩
      · rw [er_ic_f (show ¬ 0 ≤ er_bp b (x : Int) by omega)] at i2
        exact i2 (by omega) (by omega)
      · rw [er_ic_t (show 0 ≤ er_bp b (x : Int) by omega)] at i2
        exact i2 (by omega) (by omega)
  exact vc_M_pairs (loop 36 0 rfl (Int.le_refl _) (Int.le_refl _))
theorem sp_M_selected {Q : Int → er_M → Prop} (hb : er_RB m b) (hQ : Q (er_nsel b) m) : er_SI K mi_M_selected [.inr 83] m Q := by
  have loop : ∀ (d x : Nat), x + d = 36 → wp_M_selected_4 K (er_sum x (fun p => er_bs b (p : Int))) (x : Int) m Q := by
    intro d
    induction d with
    | zero =>
      intro x hx
      refine vc_M_selected_4 ⟨⟨by omega, by omega⟩, fun _ => ?_, fun hlt => by omega⟩
      rw [show x = 36 by omega]
      exact hQ
    | succ d ih =>
      intro x hx
      have h3 := (hb.2 x (by omega) (by omega)).2.2
      refine vc_M_selected_4 ⟨⟨by omega, by omega⟩, fun hle => by omega, fun _ => ⟨by omega, by omega, ?_⟩⟩
      rw [h3]
      exact ih (x + 1) (by omega)
  exact vc_M_selected (loop 36 0 rfl)
theorem sp_M_isFree {x : Int} {Q : Int → er_M → Prop} (hv : er_BV b) (hb : er_RB m b) (x0 : 0 ≤ x) (x1 : x < 36) (h1 : er_fre b x → Q 1 m) (h0 : ¬ er_fre b x → Q 0 m) : er_SI K mi_M_isFree [.inr 83, .inl x] m Q := by
  obtain ⟨g3, g4, g5⟩ := hb.2 x x0 x1
  have hk := hv.2.2.2.2.2.2.2.2.1 x x0 x1
  have hp := hv.2.2.2.2.2.2.2.2.2.2.1 x x0 x1
  unfold er_fre at h1 h0
  exact vc_M_isFree ⟨by omega, by omega, ⟨by omega, by omega⟩, fun z => h0 (fun y => by omega), fun z1 => ⟨by omega, by omega, by rcases hp with z | z <;> exact ⟨by omega, by omega⟩, fun z => h0 (fun y => by omega), fun z => h1 ⟨by omega, by omega⟩⟩⟩
theorem sp_M_unpair {x : Int} {Q : er_M → Prop} (hv : er_BV b) (hp : ∀ j : Int, 0 ≤ j → j < 36 → m 84 (40 + j) = er_bp b j + 1) (x0 : 0 ≤ x) (x1 : x < 36) (hQ : ∀ m', (∀ j : Int, 0 ≤ j → j < 36 → m' 84 (40 + j) = er_sep (er_bp b) x j + 1) → er_kp (fun c k => c = 84 ∧ 40 ≤ k ∧ k < 76) m m' → Q m') : er_SV K mi_M_unpair [.inr 83, .inl x] m Q := by
  have hpd := hv.2.2.2.2.2.2.2.2.2.2.1 x x0 x1
  have hx := hp x x0 x1
  refine vc_M_unpair ⟨by omega, by omega, ?_⟩
  rw [hx]
  refine ⟨by rcases hpd with z | z <;> exact ⟨by omega, by omega⟩, fun hle => hQ m (fun j j0 j1 => ?_) er_kp.rf, fun hgt => ⟨by omega, by rcases hpd with z | z <;> omega, fun m7 e7 m8 e8 => hQ m8 (fun j j0 j1 => ?_) ?_⟩⟩
  · rw [er_sep_eq, if_pos (by rcases hpd with z | z <;> omega)]; exact hp j j0 j1
  · rw [er_sep_eq, if_neg (by omega), e8]
    by_cases hj : j = x
    · rw [if_pos hj, hj, er_st_s]; rfl
    · rw [if_neg hj, er_st_k (by omega), e7]
      by_cases hj2 : j = er_bp b x
      · rw [if_pos hj2, show 40 + (er_bp b x + 1) - 1 = 40 + j by omega, er_st_s]; rfl
      · rw [if_neg hj2, er_st_k (by omega)]; exact hp j j0 j1
  · rw [e8, e7]
    exact (er_kp.st ⟨rfl, by omega, by rcases hpd with z | z <;> omega⟩).tr (er_kp.st ⟨rfl, by omega, by omega⟩)
end ERME
