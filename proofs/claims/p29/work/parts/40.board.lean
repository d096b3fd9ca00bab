/-! boards, their history, the text: the class's side -/
/-- a board: rows, columns, channel and tile capacity; kinds, partners (-1: none), selected -/
abbrev er_Bo : Type := Nat × Nat × Int × Int × (Int → Int) × (Int → Int) × (Int → Int)
abbrev er_bR (b : er_Bo) : Nat := b.1
abbrev er_bC (b : er_Bo) : Nat := b.2.1
abbrev er_bh (b : er_Bo) : Int := b.2.2.1
abbrev er_bt (b : er_Bo) : Int := b.2.2.2.1
abbrev er_bk (b : er_Bo) : Int → Int := b.2.2.2.2.1
abbrev er_bp (b : er_Bo) : Int → Int := b.2.2.2.2.2.1
abbrev er_bs (b : er_Bo) : Int → Int := b.2.2.2.2.2.2
/-- what holds of every board -/
def er_BV (b : er_Bo) : Prop := 1 ≤ er_bR b ∧ er_bR b ≤ 6 ∧ 1 ≤ er_bC b ∧ er_bC b ≤ 6 ∧ 0 ≤ er_bh b ∧ er_bh b ≤ 5 ∧ 0 ≤ er_bt b ∧ er_bt b ≤ 9
  ∧ (∀ j : Int, 0 ≤ j → j < 36 → 0 ≤ er_bk b j ∧ er_bk b j ≤ 2)
  ∧ (∀ j : Int, 0 ≤ j → j < 36 → ¬ (j / 6 < er_bR b ∧ j % 6 < er_bC b) → er_bk b j = 0)
  ∧ (∀ j : Int, 0 ≤ j → j < 36 → er_bp b j = -1 ∨ (0 ≤ er_bp b j ∧ er_bp b j < 36 ∧ er_bp b (er_bp b j) = j ∧ er_bp b j ≠ j ∧ er_bk b j = 1))
  ∧ (∀ j : Int, 0 ≤ j → j < 36 → er_bs b j = 0 ∨ (er_bs b j = 1 ∧ er_bk b j = 1))
/-- the class's board at c holds b -/
def er_CB (c : Nat) (m : er_M) (b : er_Bo) : Prop := m c 0 = (er_bR b : Int) ∧ m c 1 = (er_bC b : Int) ∧ m c 2 = er_bh b ∧ m c 3 = er_bt b ∧ ∀ j : Int, 0 ≤ j → j < 36 → m (c + 1) j = er_bk b j ∧ m (c + 2) j = er_bp b j ∧ m (c + 3) j = er_bs b j
theorem er_CB.kp {F : Nat → Int → Prop} {c : Nat} {m m' : er_M} {b : er_Bo} (h : er_CB c m b) (hk : er_kp F m m') (hF : ∀ q k, c ≤ q → q ≤ c + 3 → ¬ F q k) : er_CB c m' b := by
  obtain ⟨h1, h2, h3, h4, h5⟩ := h
  have e : ∀ q k, c ≤ q → q ≤ c + 3 → m' q k = m q k := fun q k a b => hk q k (hF q k a b)
  refine ⟨by rw [e _ _ (by omega) (by omega)]; exact h1, by rw [e _ _ (by omega) (by omega)]; exact h2, by rw [e _ _ (by omega) (by omega)]; exact h3, by rw [e _ _ (by omega) (by omega)]; exact h4, fun j j0 j1 => ?_⟩
  rw [e _ _ (by omega) (by omega), e _ _ (by omega) (by omega), e _ _ (by omega) (by omega)]
  exact h5 j j0 j1
theorem er_CB_BM {m : er_M} {b : er_Bo} (h : er_CB 2 m b) (hv : er_BV b) : er_BM m (er_bR b) (er_bC b) (er_bh b) (er_bt b) := ⟨h.1, h.2.1, h.2.2.1, h.2.2.2.1, hv.1, hv.2.1, hv.2.2.1, hv.2.2.2.1, hv.2.2.2.2.1, hv.2.2.2.2.2.1, hv.2.2.2.2.2.2.1, hv.2.2.2.2.2.2.2.1⟩
theorem er_cpy_in {m : er_M} {a b : Nat} {n k : Int} (h0 : 0 ≤ k) (h1 : k < n) : er_cpy m a b n b k = m a k := by unfold er_cpy; rw [if_pos ⟨rfl, h0, h1⟩]
theorem er_cpy_c {m : er_M} {a b c : Nat} {n k : Int} (h : c ≠ b) : er_cpy m a b n c k = m c k := by unfold er_cpy; rw [if_neg (fun z => h z.1)]
theorem er_kp.cpy {F : Nat → Int → Prop} {m : er_M} {a b : Nat} {n : Int} (h : ∀ k, F b k) : er_kp F m (er_cpy m a b n) := by
  intro c k hF
  exact er_cpy_c (fun z => hF (by rw [z]; exact h k))
theorem er_isB_c {b : Nat} (h : er_isB b) : b = 2 ∨ b = 8 ∨ b = 12 ∨ b = 16 ∨ b = 20 ∨ b = 24 ∨ b = 28 ∨ b = 32 ∨ b = 36 := h
/-- a board's cells -/
def er_BF (b : Nat) : Nat → Int → Prop := fun c _ => b ≤ c ∧ c ≤ b + 3
section ERB
variable {K : er_K} {m : er_M}
theorem sp_B_copySel {b b2 : Nat} {m6 : er_M} {Q : er_M → Prop} (hb : er_isB b) (hb2 : er_isB b2) (hne : b + 3 ≠ b2 + 3) (hv : ∀ j : Int, 0 ≤ j → j < 36 → m6 (b2 + 3) j = 0 ∨ m6 (b2 + 3) j = 1) (hQ : ∀ m7, (∀ c k, c ≠ b + 3 → m7 c k = m6 c k) → (∀ j : Int, 0 ≤ j → j < 36 → m7 (b + 3) j = m6 (b2 + 3) j) → Q m7) : ∀ (d x : Nat) (m1 : er_M), x + d = 36 → (∀ c k, c ≠ b + 3 → m1 c k = m6 c k) → (∀ j : Int, 0 ≤ j → j < x → m1 (b + 3) j = m6 (b2 + 3) j) → wp_B_copyFrom_64 K b b2 (x : Int) m1 Q := by
  intro d
  induction d with
  | zero =>
    intro x m1 hx hk hr
    exact vc_B_copyFrom_64 hb hb2 ⟨⟨by omega, by omega⟩, fun _ => hQ m1 hk (fun j j0 j1 => hr j j0 (by omega)), fun hlt => by omega⟩
  | succ d ih =>
    intro x m1 hx hk hr
    refine vc_B_copyFrom_64 hb hb2 ⟨⟨by omega, by omega⟩, fun hge => by omega, fun _ => ⟨by omega, by omega, ?_, fun m5 e5 => ?_⟩⟩
    · rw [hk _ _ (Ne.symm hne)]
      exact hv x (by omega) (by omega)
    · rw [show (x : Int) + 1 = ((x + 1 : Nat) : Int) by omega]
      refine ih (x + 1) m5 (by omega) (fun c k hc => ?_) (fun j j0 j1 => ?_)
      · rw [e5, er_st_c hc]
        exact hk c k hc
      · rw [e5]
        by_cases hj : j = x
        · rw [hj, er_st_s, hk _ _ (Ne.symm hne)]
        · rw [er_st_k hj]
          exact hr j j0 (by omega)
theorem sp_B_copyFrom {b b2 : Nat} {x : er_Bo} {Q : er_M → Prop} (hb : er_isB b) (hb2 : er_isB b2) (hne : b ≠ b2) (h : er_CB b2 m x) (hs : er_BV x) (hQ : ∀ m', er_CB b m' x → er_kp (er_BF b) m m' → Q m') : er_SV K mi_B_copyFrom [.inr b, .inr b2] m Q := by
  obtain ⟨h1, h2, h3, h4, h5⟩ := h
  have c1 := er_isB_c hb
  have c2 := er_isB_c hb2
  refine vc_B_copyFrom hb hb2 (fun m1 e1 m2 e2 m3 e3 m4 e4 m5 e5 m6 e6 => ?_)
  have k4 : ∀ c k, c ≠ b → m4 c k = m c k := fun c k hc => by rw [e4, e3, e2, e1, er_st_c hc, er_st_c hc, er_st_c hc, er_st_c hc]
  have k6 : ∀ c k, c ≠ b → c ≠ b + 1 → c ≠ b + 2 → m6 c k = m c k := fun c k hc hc1 hc2 => by rw [e6, er_cpy_c hc2, e5, er_cpy_c hc1, k4 c k hc]
  refine sp_B_copySel hb hb2 (by omega) (fun j j0 j1 => ?_) (fun m7 e7 r7 => ?_) 36 0 m6 rfl (fun _ _ _ => rfl) (fun j j0 j1 => by omega)
  · rw [k6 _ _ (by omega) (by omega) (by omega), (h5 j j0 j1).2.2]
    rcases hs.2.2.2.2.2.2.2.2.2.2.2 j j0 j1 with z | z
    · exact Or.inl z
    · exact Or.inr z.1
  · refine hQ m7 ⟨?_, ?_, ?_, ?_, fun j j0 j1 => ⟨?_, ?_, ?_⟩⟩ ?_
    · rw [e7 _ _ (by omega), e6, er_cpy_c (by omega), e5, er_cpy_c (by omega), e4, er_st_k (by decide), e3, er_st_k (by decide), e2, er_st_k (by decide), e1, er_st_s]
      exact h1
    · rw [e7 _ _ (by omega), e6, er_cpy_c (by omega), e5, er_cpy_c (by omega), e4, er_st_k (by decide), e3, er_st_k (by decide), e2, er_st_s, e1, er_st_c (by omega)]
      exact h2
    · rw [e7 _ _ (by omega), e6, er_cpy_c (by omega), e5, er_cpy_c (by omega), e4, er_st_k (by decide), e3, er_st_s, e2, er_st_c (by omega), e1, er_st_c (by omega)]
      exact h3
    · rw [e7 _ _ (by omega), e6, er_cpy_c (by omega), e5, er_cpy_c (by omega), e4, er_st_s, e3, er_st_c (by omega), e2, er_st_c (by omega), e1, er_st_c (by omega)]
      exact h4
    · rw [e7 _ _ (by omega), e6, er_cpy_c (by omega), e5, er_cpy_in j0 j1, k4 _ _ (by omega)]
      exact (h5 j j0 j1).1
    · rw [e7 _ _ (by omega), e6, er_cpy_in j0 j1, e5, er_cpy_c (by omega), k4 _ _ (by omega)]
      exact (h5 j j0 j1).2.1
    · rw [r7 j j0 j1, k6 _ _ (by omega) (by omega) (by omega)]
      exact (h5 j j0 j1).2.2
    · have k1 : er_kp (er_BF b) m m1 := by rw [e1]; exact er_kp.st (by unfold er_BF; omega)
      have k2 : er_kp (er_BF b) m1 m2 := by rw [e2]; exact er_kp.st (by unfold er_BF; omega)
      have k3 : er_kp (er_BF b) m2 m3 := by rw [e3]; exact er_kp.st (by unfold er_BF; omega)
      have k4 : er_kp (er_BF b) m3 m4 := by rw [e4]; exact er_kp.st (by unfold er_BF; omega)
      have k5 : er_kp (er_BF b) m4 m5 := by rw [e5]; exact er_kp.cpy (fun _ => by unfold er_BF; omega)
      have k6 : er_kp (er_BF b) m5 m6 := by rw [e6]; exact er_kp.cpy (fun _ => by unfold er_BF; omega)
      have k7 : er_kp (er_BF b) m6 m7 := fun c k hF => e7 c k (fun z => hF (by rw [z]; unfold er_BF; omega))
      exact (((((k1.tr k2).tr k3).tr k4).tr k5).tr k6).tr k7
/-- the history: its boards by their references, the oldest first -/
def er_HI (m : er_M) (H : List er_Bo) : Prop := m 6 1 = (H.length : Int) ∧ H.length ≤ 8 ∧ ∃ rf : Nat → Nat, (∀ j : Nat, j < 8 → m 7 (j : Int) = (rf j : Int) ∧ er_isB (rf j) ∧ rf j ≠ 2) ∧ (∀ i j : Nat, i < 8 → j < 8 → rf i = rf j → i = j) ∧ ∀ (j : Nat) (hj : j < H.length), er_CB (rf j) m H[j] ∧ er_BV H[j]
/-- one more, the oldest goes where there are eight -/
def er_push (H : List er_Bo) (b : er_Bo) : List er_Bo := (if H.length = 8 then H.tail else H) ++ [b]
def er_HF : Nat → Int → Prop := fun c _ => 6 ≤ c ∧ c ≤ 39
theorem er_HI.kp {F : Nat → Int → Prop} {m m' : er_M} {H : List er_Bo} (h : er_HI m H) (hk : er_kp F m m') (hF : ∀ q k, 6 ≤ q → q ≤ 39 → ¬ F q k) : er_HI m' H := by
  obtain ⟨h1, h2, rf, h3, h4, h5⟩ := h
  refine ⟨by rw [hk _ _ (hF _ _ (by omega) (by omega))]; exact h1, h2, rf, fun j hj => ⟨by rw [hk _ _ (hF _ _ (by omega) (by omega))]; exact (h3 j hj).1, (h3 j hj).2⟩, h4, fun j hj => ⟨(h5 j hj).1.kp hk (fun q k q1 q2 => hF q k ?_ ?_), (h5 j hj).2⟩⟩
  · have := er_isB_c (h3 j (by omega)).2.1
    have := (h3 j (by omega)).2.2
    omega
  · have := er_isB_c (h3 j (by omega)).2.1
    omega
theorem sp_H_drop {H : List er_Bo} {Q : er_M → Prop} (h : er_HI m H) (h8 : H.length = 8) (hQ : ∀ m', er_HI m' H.tail → er_kp (fun c _ => 6 ≤ c ∧ c ≤ 7) m m' → Q m') : er_SV K mi_H_dropOldest [.inr 6] m Q := by
  obtain ⟨h1, h2, rf, h3, h4, h5⟩ := h
  have loop : ∀ (d x : Nat) (m1 : er_M), x + d = 8 → 1 ≤ x → er_kp (fun c _ => 6 ≤ c ∧ c ≤ 7) m m1 → (∀ j : Nat, j < 8 → m1 7 (j : Int) = if j + 1 < x then (rf (j + 1) : Int) else (rf j : Int)) → m1 6 1 = 8 → wp_H_dropOldest_9 K (rf 0) (x : Int) m1 Q := by
    intro d
    induction d with
    | zero =>
      intro x m1 hx hx1 hk hr hc
      refine vc_H_dropOldest_9 (h3 0 (by omega)).2.1 ⟨⟨by omega, by omega⟩, fun _ m3 e3 m4 e4 => ?_, fun hlt => by omega⟩
      have hk4 : er_kp (fun c _ => 6 ≤ c ∧ c ≤ 7) m m4 := by
        rw [e4, e3]
        exact (hk.tr (er_kp.st (by omega))).tr (er_kp.st (by omega))
      refine hQ m4 ⟨?_, by simp; omega, fun j => if j = 7 then rf 0 else rf (j + 1), fun j hj => ?_, fun i j hi hj he => ?_, fun j hj => ?_⟩ hk4
      · rw [e4, er_st_s]
        simp [h8]
      · dsimp only
        rw [e4, er_st_c (by decide), e3]
        by_cases hj7 : j = 7
        · rw [if_pos hj7]
          subst hj7
          exact ⟨by rw [show ((7 : Nat) : Int) = 7 from rfl, er_st_s], (h3 0 (by omega)).2⟩
        · rw [if_neg hj7, er_st_k (by omega), hr j hj, if_pos (by omega)]
          exact ⟨rfl, (h3 (j + 1) (by omega)).2⟩
      · dsimp only at he
        by_cases hi7 : i = 7 <;> by_cases hj7 : j = 7
        · omega
        · rw [if_pos hi7, if_neg hj7] at he
          have := h4 0 (j + 1) (by omega) (by omega) he
          omega
        · rw [if_neg hi7, if_pos hj7] at he
          have := h4 (i + 1) 0 (by omega) (by omega) he
          omega
        · rw [if_neg hi7, if_neg hj7] at he
          have := h4 (i + 1) (j + 1) (by omega) (by omega) he
          omega
      · rw [List.length_tail] at hj
        dsimp only
        rw [if_neg (by omega), List.getElem_tail]
        refine ⟨(h5 (j + 1) (by omega)).1.kp hk4 (fun q k q1 q2 => ?_), (h5 (j + 1) (by omega)).2⟩
        have := er_isB_c (h3 (j + 1) (by omega)).2.1
        have := (h3 (j + 1) (by omega)).2.2
        omega
    | succ d ih =>
      intro x m1 hx hx1 hk hr hc
      refine vc_H_dropOldest_9 (h3 0 (by omega)).2.1 ⟨⟨by omega, by omega⟩, fun hlt => by omega, fun _ => ⟨by omega, by omega, rf x, ?_, (h3 x (by omega)).2.1, by omega, by omega, fun m12 e12 => ?_⟩⟩
      · rw [hr x (by omega), if_neg (by omega)]
      · refine ih (x + 1) m12 (by omega) (by omega) (hk.tr (by rw [e12]; exact er_kp.st (by omega))) (fun j hj => ?_) (by rw [e12, er_st_c (by decide)]; exact hc)
        rw [e12]
        by_cases hjx : j + 1 = x
        · rw [if_pos (by omega), show (j : Int) = (x : Int) - 1 by omega, er_st_s, hjx]
        · rw [er_st_k (by omega), hr j hj]
          by_cases hlt : j + 1 < x
          · rw [if_pos hlt, if_pos (by omega)]
          · rw [if_neg hlt, if_neg (by omega)]
  refine vc_H_dropOldest ⟨rf 0, (h3 0 (by omega)).1, (h3 0 (by omega)).2.1, loop 7 1 m (by omega) (by omega) er_kp.rf (fun j hj => ?_) (by rw [h1, h8]; rfl)⟩
  rw [if_neg (by omega)]
  exact (h3 j hj).1
theorem sp_H_keep {H : List er_Bo} {b : er_Bo} {Q : er_M → Prop} (h : er_HI m H) (hb : er_CB 2 m b) (hv : er_BV b) (hQ : ∀ m', er_HI m' (er_push H b) → er_kp er_HF m m' → Q m') : er_SV K mi_H_keep [.inr 6, .inr 2] m Q := by
  have add : ∀ (m1 : er_M) (H1 : List er_Bo), er_HI m1 H1 → H1.length < 8 → er_CB 2 m1 b → er_kp er_HF m m1 → H1 ++ [b] = er_push H b → wp_H_keep_13 K m1 Q := by
    intro m1 H1 hi hl hb1 hk he
    obtain ⟨h1, h2, rf, h3, h4, h5⟩ := hi
    have hq := h3 H1.length hl
    have hqc := er_isB_c hq.2.1
    refine vc_H_keep_13 ⟨by omega, by omega, rf H1.length, by rw [h1]; exact hq.1, hq.2.1, ?_⟩
    refine sp_B_copyFrom hq.2.1 (Or.inl rfl) hq.2.2 hb1 hv (fun m6 c6 k6 m7 e7 => ?_)
    have k7 : er_kp (er_BF (rf H1.length)) m1 m6 := k6
    have hn2 := hq.2.2
    have e61 : m6 6 1 = (H1.length : Int) := by rw [k6 6 1 (by unfold er_BF; omega)]; exact h1
    have e7q : ∀ k, m7 7 k = m1 7 k := fun k => by rw [e7, er_st_c (by decide), k6 7 k (by unfold er_BF; omega)]
    refine hQ m7 ?_ ((hk.tr (k6.wk (fun c k z => by unfold er_BF at z; unfold er_HF; omega))).tr (by rw [e7]; exact er_kp.st (by unfold er_HF; omega)))
    rw [← he]
    refine ⟨by rw [e7, er_st_s, e61]; simp, by simp; omega, rf, fun j hj => ⟨by rw [e7q]; exact (h3 j hj).1, (h3 j hj).2⟩, h4, fun j hj => ?_⟩
    rw [List.length_append, List.length_singleton] at hj
    have k76 : er_kp (fun c _ => c = 6) m6 m7 := by rw [e7]; exact er_kp.st rfl
    by_cases hjl : j < H1.length
    · rw [List.getElem_append_left hjl]
      refine ⟨((h5 j hjl).1.kp k6 (fun q k q1 q2 => ?_)).kp k76 (fun q k q1 q2 => ?_), (h5 j hjl).2⟩
      · have hne : rf j ≠ rf H1.length := fun z => by have := h4 j H1.length (by omega) hl z; omega
        have := er_isB_c (h3 j (by omega)).2.1
        have := (h3 j (by omega)).2.2
        unfold er_BF
        omega
      · have := er_isB_c (h3 j (by omega)).2.1
        have := (h3 j (by omega)).2.2
        omega
    · have hje : j = H1.length := by omega
      subst hje
      rw [List.getElem_append_right (by omega)]
      simp only [Nat.sub_self, List.getElem_singleton]
      exact ⟨c6.kp k76 (fun q k q1 q2 => by omega), hv⟩
  have h1 := h.1
  have h2 := h.2.1
  refine vc_H_keep ⟨⟨by omega, by omega⟩, fun hne => ?_, fun he => ?_⟩
  · refine add m H h (by omega) hb er_kp.rf ?_
    unfold er_push
    rw [if_neg (by omega)]
  · refine sp_H_drop h (by omega) (fun m3 h3 k3 => ?_)
    refine add m3 H.tail h3 (by rw [List.length_tail]; omega) (hb.kp k3 (fun q k q1 q2 => by omega)) (k3.wk (fun c k z => by unfold er_HF; omega)) ?_
    unfold er_push
    rw [if_pos (by omega)]
theorem sp_H_giveBack {H : List er_Bo} {b : er_Bo} {Q : er_M → Prop} (h : er_HI m (H ++ [b])) (hQ : ∀ m', er_HI m' H → er_CB 2 m' b → er_BV b → er_kp (fun c _ => c = 6 ∨ (2 ≤ c ∧ c ≤ 5)) m m' → Q m') : er_SV K mi_H_giveBack [.inr 6, .inr 2] m Q := by
  obtain ⟨h1, h2, rf, h3, h4, h5⟩ := h
  rw [List.length_append, List.length_singleton] at h1 h2
  have hq := h3 H.length (by omega)
  have hqc := er_isB_c hq.2.1
  have hn2 := hq.2.2
  have hlast := h5 H.length (by simp)
  rw [List.getElem_append_right (by omega)] at hlast
  simp only [Nat.sub_self, List.getElem_singleton] at hlast
  refine vc_H_giveBack ⟨⟨by omega, by omega⟩, fun z => by omega, fun _ m3 e3 => ?_⟩
  have e31 : m3 6 1 = (H.length : Int) := by rw [e3, er_st_s, h1]; omega
  have k3 : er_kp (fun c _ => c = 6) m m3 := by rw [e3]; exact er_kp.st rfl
  refine ⟨by omega, by omega, rf H.length, by rw [e31, k3 _ _ (by omega)]; exact hq.1, hq.2.1, ?_⟩
  refine sp_B_copyFrom (Or.inl rfl) hq.2.1 (Ne.symm hn2) (hlast.1.kp k3 (fun q k q1 q2 => by omega)) hlast.2 (fun m9 c9 k9 => ?_)
  refine hQ m9 ⟨by rw [k9 6 1 (by unfold er_BF; omega)]; exact e31, by omega, rf, fun j hj => ⟨by rw [k9 7 _ (by unfold er_BF; omega), k3 _ _ (by omega)]; exact (h3 j hj).1, (h3 j hj).2⟩, h4, fun j hj => ?_⟩ c9 hlast.2 ((k3.wk (fun c k z => Or.inl z)).tr (k9.wk (fun c k z => Or.inr z)))
  have hjj := h5 j (by simp; omega)
  rw [List.getElem_append_left hj] at hjj
  have := er_isB_c (h3 j (by omega)).2.1
  have := (h3 j (by omega)).2.2
  exact ⟨(hjj.1.kp k3 (fun q k q1 q2 => by omega)).kp k9 (fun q k q1 q2 => by unfold er_BF; omega), hjj.2⟩
end ERB
