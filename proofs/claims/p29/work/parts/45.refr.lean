/-! the class's layering: all layers -/
theorem er_sig_bd (b : er_Bo) : 0 ≤ er_sig b ∧ er_sig b ≤ 36 := by
  unfold er_sig
  refine ⟨er_sum_nonneg (fun i _ => er_ic_nn _), ?_⟩
  have h1 : er_sum 36 (fun p => er_ic (er_bk b (p : Int) = 1)) ≤ er_sum 36 (fun _ => 1) := er_sum_le (fun i _ => by
    rcases er_ic_01 (er_bk b (i : Int) = 1) with z | z <;> rw [z] <;> decide)
  exact Int.le_trans h1 (by decide)
theorem er_left_nn (b : er_Bo) (f : Int → Int) : 0 ≤ er_left b f := er_sum_nonneg (fun i _ => er_ic_nn _)
theorem er_left_0 (b : er_Bo) : er_left b (fun _ => 0) = er_sig b := er_sum_congr (fun p _ => er_ic_iff ⟨fun z => z.1, fun z => ⟨z, rfl⟩⟩)
def er_YG (y : Nat) : Nat → Int → Prop := fun c k => (y + 1 ≤ c ∧ c ≤ y + 4) ∨ (c = y ∧ (k = 2 ∨ k = 6 ∨ k = 7 ∨ k = 8)) ∨ (53 ≤ c ∧ c ≤ 60) ∨ (c = 52 ∧ (k = 8 ∨ k = 9 ∨ k = 10))
section ERM
variable {K : er_K} {y : Nat} {m : er_M}
theorem sp_B_countSignals {b : er_Bo} {Q : Int → er_M → Prop} (hv : er_BV b) (hb : er_CB 2 m b) (hQ : Q (er_sig b) m) : er_SI K mi_B_countSignals [.inr 2] m Q := by
  have loop : ∀ (d x : Nat), x + d = 36 → 0 ≤ er_sum x (fun p => er_ic (er_bk b (p : Int) = 1)) → er_sum x (fun p => er_ic (er_bk b (p : Int) = 1)) ≤ x → wp_B_countSignals_4 K (er_sum x (fun p => er_ic (er_bk b (p : Int) = 1))) (x : Int) m Q := by
    intro d
    induction d with
    | zero =>
      intro x hx s0 s1
      refine vc_B_countSignals_4 ⟨⟨by omega, by omega⟩, fun _ => ?_, fun hlt => by omega⟩
      rw [show x = 36 by omega]
      exact hQ
    | succ d ih =>
      intro x hx s0 s1
      have h3 := (hb.2.2.2.2 x (by omega) (by omega)).1
      have hkd := hv.2.2.2.2.2.2.2.2.1 x (by omega) (by omega)
      have e : er_sum (x + 1) (fun p => er_ic (er_bk b (p : Int) = 1)) = er_sum x (fun p => er_ic (er_bk b (p : Int) = 1)) + er_ic (er_bk b (x : Int) = 1) := rfl
      have i2 := ih (x + 1) (by omega)
      rw [e] at i2
      have h3' : m 3 (x : Int) = er_bk b (x : Int) := h3
      refine vc_B_countSignals_4 ⟨⟨by omega, by omega⟩, fun hle => by omega, fun _ => ⟨by omega, by omega, ⟨by omega, by omega⟩, fun hne => ?_, fun he => ?_⟩⟩
      · rw [er_ic_f (show ¬ er_bk b (x : Int) = 1 by omega), Int.add_zero] at i2
        exact i2 s0 (by omega)
      · rw [er_ic_t (show er_bk b (x : Int) = 1 by omega)] at i2
        exact i2 (by omega) (by omega)
  exact vc_B_countSignals (loop 36 0 rfl (Int.le_refl _) (Int.le_refl _))
/-- a layering that was worked out -/
def er_LO (y : Nat) (b : er_Bo) (s : Nat) (m : er_M) : Prop := (∀ j : Int, 0 ≤ j → j < 36 → m (y + 4) j = (er_lay b s).1 j ∧ 0 ≤ (er_lay b s).1 j ∧ (er_lay b s).1 j ≤ 36) ∧ m y 6 = (er_lay b s).2.1 ∧ 0 ≤ (er_lay b s).2.1 ∧ (er_lay b s).2.1 ≤ 36 ∧ m y 7 = (er_lay b s).2.2
theorem sp_Y_refresh {b : er_Bo} {s : Nat} {Q : Nat → er_M → Prop} (hy : er_isY y) (hv : er_BV b) (hb : er_CB 2 m b) (hs0 : m y 0 = (s : Int)) (hs4 : s < 4) (hfr : m y 8 = 0 ∨ (m y 8 = 1 ∧ er_LO y b s m)) (hk : er_MK 52 m) (hs : m 52 10 < 1999000000)
    (hQ : ∀ m', er_LO y b s m' → m' y 8 = 1 → er_MK 52 m' → m' 52 10 ≤ m 52 10 + 2592 → m 52 10 ≤ m' 52 10 → er_kp (er_YG y) m m' → Q y m') : er_SR K mi_Y_refresh [.inr y, .inr 2, .inr 52] m Q := by
  have yc := er_isY_c hy
  have hR := hv.2.1
  have hC := hv.2.2.2.1
  obtain ⟨sq1, sq2, sq3, sq4, sq5⟩ := er_seq_all (er_bR b) (by omega) (er_bC b) (by omega) s hs4
  -- the end
  have fin : ∀ (f : Int → Int) (l left : Int) (m1 : er_M), (er_lay b s) = (f, l - 1, if left ≤ 0 then 1 else 0) → 0 ≤ left → left ≤ 36 → 1 ≤ l → l ≤ 37 → (∀ j : Int, 0 ≤ j → j < 36 → m1 (y + 4) j = f j ∧ 0 ≤ f j ∧ f j ≤ 36) → m1 y 6 = l - 1 → er_MK 52 m1 → m1 52 10 ≤ m 52 10 + 2592 → m 52 10 ≤ m1 52 10 → er_kp (er_YG y) m m1 → wp_Y_refresh_101 K y left m1 Q := by
    intro f l left m1 e l0 l36 h1 h37 hf h6 hmk c1 c2 hkp
    have out : ∀ (v : Int) (m6 : er_M), v = (if left ≤ 0 then 1 else 0) → m6 = er_st (er_st m1 y 7 v) y 8 1 → Q y m6 := by
      intro v m6 ev e6
      have n6 : er_kp (fun c k => c = y ∧ (k = 7 ∨ k = 8)) m1 m6 := by rw [e6]; exact (er_kp.st ⟨rfl, Or.inl rfl⟩).tr (er_kp.st ⟨rfl, Or.inr rfl⟩)
      refine hQ m6 ⟨fun j j0 j1 => ?_, ?_, ?_, ?_, ?_⟩ ?_ (hmk.kpF n6 (fun k => by omega) (by omega)) ?_ ?_ (hkp.tr (n6.wk (fun c k z => by unfold er_YG; omega)))
      · rw [e, n6 _ _ (by omega)]; exact hf j j0 j1
      · rw [e, n6 _ _ (by omega)]; exact h6
      · rw [e]; simp only; omega
      · rw [e]; simp only; omega
      · rw [e, e6, er_st_k (by decide), er_st_s, ev]
      · rw [e6, er_st_s]
      · rw [n6 _ _ (by omega)]; exact c1
      · rw [n6 _ _ (by omega)]; exact c2
    refine vc_Y_refresh_101 hy ⟨⟨by omega, by omega⟩, fun hz m3 e3 m4 e4 => out 0 m4 (by rw [if_neg (by omega)]) (by rw [e4, e3]), fun hz m5 e5 m6 e6 => out 1 m6 (by rw [if_pos (by omega)]) (by rw [e6, e5])⟩
  -- a layer
  have layers : ∀ (k : Nat) (l : Int) (f : Int → Int) (m1 : er_M), (k : Int) + l = 38 → 1 ≤ k → 1 ≤ l → er_lays b (er_seq (er_bR b) (er_bC b) s) k l f (er_left b f) = er_lay b s → er_left b f ≤ 37 - l → er_LI b f → (∀ j : Int, 0 ≤ j → j < 36 → m1 (y + 4) j = f j ∧ 0 ≤ f j ∧ f j ≤ 36) → (∀ j : Int, 0 ≤ j → j < 36 → 0 ≤ m1 (y + 2) j ∧ m1 (y + 2) j < l) → er_ol y m1 (er_seq (er_bR b) (er_bC b) s) → m1 y 6 = l - 1 → er_MK 52 m1 → m1 52 10 ≤ m 52 10 + 72 * (l - 1) → m 52 10 ≤ m1 52 10 → er_kp (er_YG y) m m1 → wp_Y_refresh_55 K y (er_left b f) l m1 Q := by
    intro k
    induction k with
    | zero => intro l f m1 _ h; exact absurd h (by decide)
    | succ k ih =>
      intro l f m1 hkl hk1 hl1 he hle hLI hf hg ho h6 hmk c1 c2 hkp
      have hnn := er_left_nn b f
      simp only [er_lays] at he
      refine vc_Y_refresh_55 hy ⟨⟨by omega, by omega⟩, fun hgt => ?_, fun hle36 => ⟨⟨by omega, by omega⟩, fun hz => ?_, fun hpos => ?_⟩⟩
      · rw [if_pos (show er_left b f ≤ 0 by omega)] at he
        exact fin f l _ m1 (by rw [if_pos (by omega)]; exact he.symm) hnn (by omega) hl1 (by omega) hf h6 hmk (by omega) c2 hkp
      · rw [if_pos hz] at he
        exact fin f l _ m1 (by rw [if_pos hz]; exact he.symm) hnn (by omega) hl1 (by omega) hf h6 hmk (by omega) c2 hkp
      · rw [if_neg (by omega)] at he
        have hcb := hb.kp hkp (fun q j a z => by unfold er_YG; omega)
        refine sp_Y_fill hy hv hcb ho (fun p hp => (sq2 p hp).2.2) sq5 sq1 (fun j j0 j1 => (hf j j0 j1).1) (fun j j0 j1 => (hf j j0 j1).2) hLI hg ⟨hl1, hle36⟩ hmk (by omega) (fun m5 q1 q2 q3 q4 q5 q6 => ?_)
        have hPI := er_put_PI (op := er_opn b f) hv (show l ≠ 0 by omega) (er_seq (er_bR b) (er_bC b) s) [] f [] (fun p hp => (sq2 p hp).2.2) (by simpa using sq5) (er_PI2_0 hLI)
        have hleft := er_left_put hPI (show l ≠ 0 by omega)
        have hPb := hPI.2.2.2.1
        have hf5 : ∀ j : Int, 0 ≤ j → j < 36 → m5 (y + 4) j = (er_put b (er_opn b f) l (er_seq (er_bR b) (er_bC b) s) [] f []).1 j ∧ 0 ≤ (er_put b (er_opn b f) l (er_seq (er_bR b) (er_bC b) s) [] f []).1 j ∧ (er_put b (er_opn b f) l (er_seq (er_bR b) (er_bC b) s) [] f []).1 j ≤ 36 := fun j j0 j1 => by
          refine ⟨q1 j j0 j1, ?_⟩
          rw [hPb j j0 j1]
          have := hf j j0 j1
          split <;> omega
        have kp5 : er_kp (er_YG y) m m5 := hkp.tr (q6.wk (fun c j z => by unfold er_YF at z; unfold er_YG; omega))
        have h65 : m5 y 6 = l - 1 := by rw [q6 y 6 (by unfold er_YF; omega)]; exact h6
        have ho5 : er_ol y m5 (er_seq (er_bR b) (er_bC b) s) := ⟨by rw [q6 y 2 (by unfold er_YF; omega)]; exact ho.1, fun i hi => by rw [q6 (y + 1) _ (by unfold er_YF; omega)]; exact ho.2 i hi⟩
        generalize er_put b (er_opn b f) l (er_seq (er_bR b) (er_bC b) s) [] f [] = res at he hleft hf5 hPI hPb
        have hlr := er_left_nn b res.1
        refine ⟨⟨by omega, by omega⟩, fun hne m9 e9 => ?_, fun hz => ?_⟩
        · have hne2 : res.2 ≠ [] := fun z => hne (by rw [z]; rfl)
          rw [er_if_f hne2, ← hleft] at he
          have n9 : er_kp (fun c j => c = y ∧ j = 6) m5 m9 := by rw [e9]; exact er_kp.st ⟨rfl, rfl⟩
          have h2 := ih (l + 1) res.1 m9 (by omega) (by omega) (by omega) he (by omega) hPI.1 (fun j j0 j1 => by rw [n9 _ _ (by omega)]; exact hf5 j j0 j1) (fun j j0 j1 => by rw [n9 _ _ (by omega)]; have := q2 j j0 j1; omega) ⟨by rw [n9 _ _ (by omega)]; exact ho5.1, fun i hi => by rw [n9 _ _ (by omega)]; exact ho5.2 i hi⟩ (by rw [e9, er_st_s]; omega) (q3.kpF n9 (fun k => by omega) (by omega)) (by rw [n9 _ _ (by omega)]; omega) (by rw [n9 _ _ (by omega)]; omega) (kp5.tr (n9.wk (fun c j z => by unfold er_YG; omega)))
          rw [hleft] at h2
          exact h2
        · have hnil : res.2 = [] := List.eq_nil_of_length_eq_zero (by omega)
          rw [er_if_t hnil] at he
          exact fin res.1 l _ m5 (by rw [if_neg (by omega)]; exact he.symm) hnn (by omega) hl1 (by omega) hf5 h65 q3 (by omega) (by omega) kp5
  -- all off
  have zero : ∀ (d x : Nat) (m1 : er_M), x + d = 36 → (∀ j : Int, 0 ≤ j → j < x → m1 (y + 4) j = 0 ∧ m1 (y + 2) j = 0) → er_ol y m1 (er_seq (er_bR b) (er_bC b) s) → er_kp (fun c k => (y + 1 ≤ c ∧ c ≤ y + 4) ∨ (c = y ∧ k = 2)) m m1 → wp_Y_refresh_16 K y (x : Int) m1 Q := by
    intro d
    induction d with
    | zero =>
      intro x m1 hx h0 ho hkp
      refine vc_Y_refresh_16 hy ⟨⟨by omega, by omega⟩, fun _ m3 e3 => ?_, fun hlt => by omega⟩
      have n3 : er_kp (fun c k => (y + 1 ≤ c ∧ c ≤ y + 4) ∨ (c = y ∧ (k = 2 ∨ k = 6))) m m3 := by rw [e3]; exact (hkp.wk (fun c k z => by omega)).tr (er_kp.st (by omega))
      have e31 : ∀ c k, c ≠ y → m3 c k = m1 c k := fun c k hc => by rw [e3, er_st_c hc]
      have hcb := hb.kp n3 (fun q j a z => by omega)
      refine sp_B_countSignals hv hcb ?_
      rw [← er_left_0 b]
      have hsb := er_sig_bd b
      refine layers 37 1 (fun _ => 0) m3 (by decide) (by decide) (by decide) (by rw [er_left_0]; rfl) (by rw [er_left_0]; omega) ⟨fun j j0 j1 _ => Iff.rfl, fun j j0 j1 hj => absurd rfl hj⟩ (fun j j0 j1 => ⟨by rw [e31 _ _ (by omega)]; exact (h0 j j0 (by omega)).1, by decide, by decide⟩) (fun j j0 j1 => by rw [e31 _ _ (by omega), (h0 j j0 (by omega)).2]; decide) ⟨by rw [e3, er_st_k (by decide)]; exact ho.1, fun i hi => by rw [e31 _ _ (by omega)]; exact ho.2 i hi⟩ (by rw [e3, er_st_s]; rfl) (hk.kpF n3 (fun k => by omega) (by omega)) (by rw [n3 52 10 (by omega)]; omega) (by rw [n3 52 10 (by omega)]; exact Int.le_refl _) (n3.wk (fun c k z => by unfold er_YG; omega))
    | succ d ih =>
      intro x m1 hx h0 ho hkp
      refine vc_Y_refresh_16 hy ⟨⟨by omega, by omega⟩, fun hle => by omega, fun _ => ⟨by omega, by omega, fun m8 e8 m9 e9 => ?_⟩⟩
      have n9 : er_kp (fun c k => c = y + 4 ∨ c = y + 2) m1 m9 := by rw [e9, e8]; exact (er_kp.st (Or.inl rfl)).tr (er_kp.st (Or.inr rfl))
      refine ih (x + 1) m9 (by omega) (fun j j0 j1 => ?_) ⟨by rw [n9 _ _ (by omega)]; exact ho.1, fun i hi => by rw [n9 _ _ (by omega)]; exact ho.2 i hi⟩ (hkp.tr (n9.wk (fun c k z => by omega)))
      rw [e9, e8]
      by_cases hj : j = x
      · rw [hj, er_st_s, er_st_c (by omega), er_st_s]
        exact ⟨rfl, rfl⟩
      · have h0j := h0 j j0 (by omega)
        exact ⟨by rw [er_st_c (by omega), er_st_k hj]; exact h0j.1, by rw [er_st_k hj, er_st_c (by omega)]; exact h0j.2⟩
  refine vc_Y_refresh hy ⟨by rcases hfr with z | z; exact ⟨by omega, by omega⟩; exact ⟨by omega, by omega⟩, fun hz => ?_, fun hnz => ?_⟩
  · refine sp_Y_putInOrder hy (er_CB_BM hb hv) hs0 hs4 (fun m3 h3 => ?_)
    exact zero 36 0 m3 (by decide) (fun j j0 j1 => by omega) h3.1 (h3.2.wk (fun c k z => by unfold er_OF at z; omega))
  · rcases hfr with z | z
    · exact absurd z hnz
    · exact hQ m z.2 z.1 hk (by omega) (Int.le_refl _) er_kp.rf
end ERM
