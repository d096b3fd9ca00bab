/-! the class's network: how it is built -/
/-- outside F nothing changes -/
def er_kp (F : Nat → Int → Prop) (m m' : er_M) : Prop := ∀ c k, ¬ F c k → m' c k = m c k
theorem er_kp.rf {F : Nat → Int → Prop} {m : er_M} : er_kp F m m := fun _ _ _ => rfl
theorem er_kp.tr {F : Nat → Int → Prop} {m m' m'' : er_M} (h : er_kp F m m') (h' : er_kp F m' m'') : er_kp F m m'' := fun c k hF => (h' c k hF).trans (h c k hF)
theorem er_kp.wk {F G : Nat → Int → Prop} {m m' : er_M} (h : er_kp F m m') (hs : ∀ c k, F c k → G c k) : er_kp G m m' := fun c k hF => h c k (fun z => hF (hs c k z))
theorem er_kp.st {F : Nat → Int → Prop} {m : er_M} {c : Nat} {k v : Int} (h : F c k) : er_kp F m (er_st m c k v) := by
  intro c' k' hF
  unfold er_st
  rw [if_neg (fun z => hF (by rw [z.1, z.2]; exact h))]
theorem er_st_s (m : er_M) (c : Nat) (k v : Int) : er_st m c k v c k = v := by unfold er_st; rw [if_pos ⟨rfl, rfl⟩]
theorem er_st_c {m : er_M} {c c' : Nat} {k k' v : Int} (h : c' ≠ c) : er_st m c k v c' k' = m c' k' := by unfold er_st; rw [if_neg (fun z => h z.1)]
theorem er_st_k {m : er_M} {c c' : Nat} {k k' v : Int} (h : k' ≠ k) : er_st m c k v c' k' = m c' k' := by unfold er_st; rw [if_neg (fun z => h z.2)]
def er_flat (n : Nat) (f : Nat → List er_Ed) : List er_Ed := match n with
  | 0 => []
  | k + 1 => er_flat k f ++ f k
theorem er_flat_len {f g : Nat → List er_Ed} : ∀ n : Nat, (∀ i, i < n → (f i).length = (g i).length) → (er_flat n f).length = (er_flat n g).length := by
  intro n
  induction n with
  | zero => intro _; rfl
  | succ n ih => intro h; simp only [er_flat, List.length_append]; rw [ih (fun i hi => h i (by omega)), h n (by omega)]
theorem er_flat_mono {f : Nat → List er_Ed} {a b : Nat} (h : a ≤ b) : (er_flat a f).length ≤ (er_flat b f).length := by
  induction b with
  | zero => rw [show a = 0 by omega]; exact Nat.le_refl _
  | succ b ih =>
    by_cases hb : a = b + 1
    · rw [hb]; exact Nat.le_refl _
    · simp only [er_flat, List.length_append]
      have := ih (by omega)
      omega
theorem er_flat_pre {g : Nat → Nat → List er_Ed} {R C r c : Nat} (hr : r < R) (hc : c < C) : (er_flat r (fun r => er_flat C (fun c => g r c))).length + (er_flat c (fun c => g r c)).length + (g r c).length ≤ (er_flat R (fun r => er_flat C (fun c => g r c))).length := by
  have h1 : (er_flat (c + 1) (fun c => g r c)).length ≤ (er_flat C (fun c => g r c)).length := er_flat_mono (by omega)
  have h2 : (er_flat (r + 1) (fun r => er_flat C (fun c => g r c))).length ≤ (er_flat R (fun r => er_flat C (fun c => g r c))).length := er_flat_mono (by omega)
  rw [show er_flat (c + 1) (fun c => g r c) = er_flat c (fun c => g r c) ++ g r c from rfl, List.length_append] at h1
  rw [show er_flat (r + 1) (fun r => er_flat C (fun c => g r c)) = er_flat r (fun r => er_flat C (fun c => g r c)) ++ er_flat C (fun c => g r c) from rfl, List.length_append] at h2
  omega
theorem er_flat_le {f : Nat → List er_Ed} {k : Nat} : ∀ n : Nat, (∀ i, i < n → (f i).length ≤ k) → (er_flat n f).length ≤ n * k := by
  intro n
  induction n with
  | zero => intro _; simp [er_flat]
  | succ n ih =>
    intro h
    simp only [er_flat, List.length_append]
    have := ih (fun i hi => h i (by omega))
    have := h n (by omega)
    rw [Nat.add_mul]
    omega
/-- the edges: from the source to the pins, from the pins to their tiles, of the tiles, of the channels -/
def er_srcs (sup : Nat → Int) : List er_Ed := er_flat 36 (fun p => [(0, 2 + (p : Int), sup p)])
def er_pin4 (r c : Nat) (w : Int) : List er_Ed := [(2 + (6 * (r : Int) + c), 38 + (7 * (r : Int) + c), w), (2 + (6 * (r : Int) + c), 38 + (7 * (r : Int) + (c + 1)), w), (2 + (6 * (r : Int) + c), 38 + (7 * ((r : Int) + 1) + c), w), (2 + (6 * (r : Int) + c), 38 + (7 * ((r : Int) + 1) + (c + 1)), w)]
noncomputable def er_pinc (kd : Int → Int) (w : Int) (r c : Nat) : List er_Ed := if kd (6 * (r : Int) + c) = 1 then er_pin4 r c w else []
noncomputable def er_pins (R C : Nat) (kd : Int → Int) (w : Int) : List er_Ed := er_flat R (fun r => er_flat C (fun c => er_pinc kd w r c))
def er_tile (R C : Nat) (tl M : Int) (r c : Nat) : List er_Ed := (38 + (7 * (r : Int) + c), 87 + (7 * (r : Int) + c), tl) :: (if r = 0 ∨ r = R ∨ c = 0 ∨ c = C then [(87 + (7 * (r : Int) + c), 1, M)] else [])
def er_tiles (R C : Nat) (tl M : Int) : List er_Ed := er_flat (R + 1) (fun r => er_flat (C + 1) (fun c => er_tile R C tl M r c))
def er_both (a b cap : Int) : List er_Ed := [(87 + a, 38 + b, cap), (87 + b, 38 + a, cap)]
def er_chan (R C : Nat) (ch : Int) (op : Int → Int) (r c : Nat) : List er_Ed :=
  (if c + 1 < C then er_both (7 * (r : Int) + (c + 1)) (7 * ((r : Int) + 1) + (c + 1)) (ch + op (6 * (r : Int) + c) + op (6 * (r : Int) + (c + 1))) else []) ++ (if r + 1 < R then er_both (7 * ((r : Int) + 1) + c) (7 * ((r : Int) + 1) + (c + 1)) (ch + op (6 * (r : Int) + c) + op (6 * ((r : Int) + 1) + c)) else [])
def er_chans (R C : Nat) (ch : Int) (op : Int → Int) : List er_Ed := er_flat R (fun r => er_flat C (fun c => er_chan R C ch op r c))
theorem er_tiles_len {R C : Nat} (hR : R ≤ 6) (hC : C ≤ 6) (tl M : Int) : (er_tiles R C tl M).length ≤ 73 := by
  have e1 : (er_tiles R C tl M).length = (er_tiles R C 0 0).length := er_flat_len _ (fun r _ => er_flat_len _ (fun c _ => by
    unfold er_tile
    split <;> rfl))
  have h : ∀ R, R < 7 → ∀ C, C < 7 → (er_tiles R C 0 0).length ≤ 73 := by decide +kernel
  rw [e1]
  exact h R (by omega) C (by omega)
theorem er_chans_len {R C : Nat} (hR : R ≤ 6) (hC : C ≤ 6) (ch : Int) (op : Int → Int) : (er_chans R C ch op).length ≤ 120 := by
  have e1 : (er_chans R C ch op).length = (er_chans R C 0 (fun _ => 0)).length := er_flat_len _ (fun r _ => er_flat_len _ (fun c _ => by
    unfold er_chan
    split <;> split <;> rfl))
  have h : ∀ R, R < 7 → ∀ C, C < 7 → (er_chans R C 0 (fun _ => 0)).length ≤ 120 := by decide +kernel
  rw [e1]
  exact h R (by omega) C (by omega)
theorem er_pins_len {R C : Nat} (hR : R ≤ 6) (hC : C ≤ 6) (kd : Int → Int) (w : Int) : (er_pins R C kd w).length ≤ 144 := by
  have h := er_flat_le (f := fun r => er_flat C (fun c => er_pinc kd w r c)) (k := C * 4) R (fun r _ => er_flat_le C (fun c _ => by
    unfold er_pinc
    split
    · exact Nat.le_refl _
    · exact Nat.zero_le _))
  have h2 : R * (C * 4) ≤ 6 * (6 * 4) := Nat.mul_le_mul hR (Nat.mul_le_mul hC (Nat.le_refl _))
  unfold er_pins
  omega
theorem er_srcs_len (sup : Nat → Int) : (er_srcs sup).length = 36 := by
  have e1 : (er_srcs sup).length = (er_srcs (fun _ => 0)).length := er_flat_len _ (fun _ _ => rfl)
  rw [e1]
  decide +kernel
/-- the class's network holds the edges L -/
def er_CN (n : Nat) (m : er_M) (L : List er_Ed) : Prop := m n 8 = 2 * (L.length : Int) ∧ L.length ≤ 373 ∧ er_Bd L ∧ (∀ e : Int, 0 ≤ e → e < 2 * (L.length : Int) → m (n + 3) e = er_to L e) ∧ er_Adj L (m (n + 1)) (m (n + 2)) (-1)
/-- and nothing flows -/
def er_Fr (L : List er_Ed) (rm : Int → Int) : Prop := ∀ i : Nat, i < L.length → rm (2 * (i : Int)) = (er_g L i).2.2 ∧ rm (2 * (i : Int) + 1) = 0
def er_CF (n : Nat) (m : er_M) (L : List er_Ed) : Prop := er_CN n m L ∧ er_Fr L (m (n + 4))
/-- a network's cells -/
def er_NR (n : Nat) : Nat → Int → Prop := fun c _ => n ≤ c ∧ c ≤ n + 8
/-- where building writes -/
def er_NB (n : Nat) : Nat → Int → Prop := fun c k => (n + 1 ≤ c ∧ c ≤ n + 4) ∨ (c = n ∧ (k = 8 ∨ k = 9))
theorem er_Bd_add {L : List er_Ed} {t : er_Ed} (h : er_Bd L) (h1 : 0 ≤ t.1 ∧ t.1 < 136 ∧ 0 ≤ t.2.1 ∧ t.2.1 < 136 ∧ 0 ≤ t.2.2 ∧ t.2.2 ≤ 1000000) : er_Bd (L ++ [t]) := by
  intro i hi
  by_cases hl : i < L.length
  · rw [er_g_app1 hl]; exact h i hl
  · rw [List.length_append, List.length_singleton] at hi
    rw [show i = L.length by omega, er_g_app2]
    exact h1
theorem er_Fr_add {L : List er_Ed} {t : er_Ed} {rm rm' : Int → Int} (h : er_Fr L rm) (h0 : ∀ k : Int, 0 ≤ k → k < 2 * (L.length : Int) → rm' k = rm k) (h1 : rm' (2 * (L.length : Int)) = t.2.2) (h2 : rm' (2 * (L.length : Int) + 1) = 0) : er_Fr (L ++ [t]) rm' := by
  intro i hi
  by_cases hl : i < L.length
  · rw [er_g_app1 hl, h0 _ (by omega) (by omega), h0 _ (by omega) (by omega)]
    exact h i hl
  · rw [List.length_append, List.length_singleton] at hi
    rw [show i = L.length by omega, er_g_app2]
    exact ⟨h1, h2⟩
section ERN
variable {K : er_K} {n : Nat} {m : er_M}
theorem sp_N_connect {L : List er_Ed} {a b cap : Int} {Q : er_M → Prop} (hn : er_isN n) (h : er_CF n m L) (hl : L.length < 373) (ha : 0 ≤ a ∧ a < 136) (hb : 0 ≤ b ∧ b < 136) (hc : 0 ≤ cap ∧ cap ≤ 1000000) (hQ : ∀ m', er_CF n m' (L ++ [(a, b, cap)]) → er_kp (er_NB n) m m' → m' n 9 = m n 9 → Q m') : er_SV K mi_N_connect [.inr n, .inl a, .inl b, .inl cap] m Q := by
  obtain ⟨⟨h1, h2, h3, h4, h5⟩, h6⟩ := h
  refine vc_N_connect hn ⟨⟨by omega, by omega⟩, fun _ => ⟨by omega, by omega, ?_⟩, fun _ => by omega⟩
  intro m5 e5 m6 e6
  refine ⟨ha.1, ha.2, ?_⟩
  intro m9 e9 m10 e10
  refine ⟨by omega, by omega, ?_⟩
  intro m13 e13 m14 e14
  refine ⟨hb.1, hb.2, ?_⟩
  intro m17 e17 m18 e18 m19 e19
  have s1 : ∀ v, m19 (n + 1) v = if v = b then 2 * (L.length : Int) + 1 else if v = a then 2 * (L.length : Int) else m (n + 1) v := by
    intro v
    subst e5 e6 e9 e10 e13 e14 e17 e18 e19
    simp [er_st, h1]
  have s2 : ∀ e, m19 (n + 2) e = if e = 2 * (L.length : Int) + 1 then (if b = a then 2 * (L.length : Int) else m (n + 1) b) else if e = 2 * (L.length : Int) then m (n + 1) a else m (n + 2) e := by
    intro v
    subst e5 e6 e9 e10 e13 e14 e17 e18 e19
    simp [er_st, h1]
  have s3 : ∀ e, m19 (n + 3) e = if e = 2 * (L.length : Int) + 1 then a else if e = 2 * (L.length : Int) then b else m (n + 3) e := by
    intro v
    subst e5 e6 e9 e10 e13 e14 e17 e18 e19
    simp [er_st, h1]
  have s4 : ∀ e, m19 (n + 4) e = if e = 2 * (L.length : Int) + 1 then 0 else if e = 2 * (L.length : Int) then cap else m (n + 4) e := by
    intro v
    subst e5 e6 e9 e10 e13 e14 e17 e18 e19
    simp [er_st, h1]
  have s8 : m19 n 8 = 2 * (L.length : Int) + 2 := by
    subst e5 e6 e9 e10 e13 e14 e17 e18 e19
    simp [er_st, h1]
  have s9 : m19 n 9 = m n 9 := by
    subst e5 e6 e9 e10 e13 e14 e17 e18 e19
    simp [er_st]
  have sk : er_kp (er_NB n) m m19 := by
    subst e5 e6 e9 e10 e13 e14 e17 e18 e19
    repeat (first | exact er_kp.rf | refine er_kp.tr ?_ (er_kp.st (by unfold er_NB; omega)))
  obtain ⟨f1, f2, f3, f4⟩ := er_fr_new (L := L) (t := (a, b, cap))
  have hlen : (2 * ((L ++ [(a, b, cap)]).length : Int)) = 2 * (L.length : Int) + 2 := by simp; omega
  refine hQ m19 ⟨⟨?_, by simp; omega, er_Bd_add h3 ⟨ha.1, ha.2, hb.1, hb.2, hc.1, hc.2⟩, fun e h0 h1 => ?_, ?_⟩, ?_⟩ sk s9
  · rw [s8, hlen]
  · rw [hlen] at h1
    rw [s3]
    by_cases he : e < 2 * (L.length : Int)
    · rw [if_neg (by omega), if_neg (by omega), er_to_app h0 he]
      exact h4 e h0 he
    · rcases (by omega : e = 2 * (L.length : Int) ∨ e = 2 * (L.length : Int) + 1) with rfl | rfl
      · rw [if_neg (by omega), if_pos rfl, f2]
      · rw [if_pos rfl, f4]
  · refine er_Adj_add h5 ha.1 ha.2 hb.1 hb.2 (fun v _ _ => s1 v) ?_ ?_ (fun e h0 h1 => ?_)
    · rw [s2, if_neg (by omega), if_pos rfl]
    · rw [s2, if_pos rfl]
    · rw [s2, if_neg (by omega), if_neg (by omega)]
  · refine er_Fr_add h6 (fun k h0 h1 => ?_) ?_ ?_
    · rw [s4, if_neg (by omega), if_neg (by omega)]
    · rw [s4, if_neg (by omega), if_pos rfl]
    · rw [s4, if_pos rfl]
theorem sp_N_connectBothWays {L : List er_Ed} {a b cap : Int} {Q : er_M → Prop} (hn : er_isN n) (h : er_CF n m L) (hl : L.length + 2 ≤ 373) (ha : 0 ≤ a ∧ a < 49) (hb : 0 ≤ b ∧ b < 49) (hc : 0 ≤ cap ∧ cap ≤ 1000000) (hQ : ∀ m', er_CF n m' (L ++ er_both a b cap) → er_kp (er_NB n) m m' → m' n 9 = m n 9 → Q m') : er_SV K mi_N_connectBothWays [.inr n, .inl a, .inl b, .inl cap] m Q := by
  refine vc_N_connectBothWays hn (sp_N_connect hn h (by omega) (by omega) (by omega) hc (fun m1 h1 k1 n1 => ?_))
  refine sp_N_connect hn h1 (by simp; omega) (by omega) (by omega) hc (fun m2 h2 k2 n2 => ?_)
  refine hQ m2 ?_ (k1.tr k2) (n2.trans n1)
  rw [List.append_assoc] at h2
  exact h2
end ERN
