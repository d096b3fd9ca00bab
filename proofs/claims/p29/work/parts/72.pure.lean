/-! answers as functions of the board; escaping against selecting, layers against the lower bound -/
theorem er_max_uq {L : List er_Ed} {r1 r2 : Int → Int} {x1 x2 : Int} (h1 : er_max L r1 x1) (h2 : er_max L r2 x2) : x1 = x2 ∧ ∀ v, er_near L r1 v ↔ er_near L r2 v := er_same h1 h2 (Int.le_refl _) (Int.le_refl _)
noncomputable def er_fM (L : List er_Ed) : Int := Classical.epsilon (fun x : Int => ∃ rm, er_max L rm x)
theorem er_fM_eq {L : List er_Ed} {rm : Int → Int} {x : Int} (h : er_max L rm x) : x = er_fM L := by
  have h2 : ∃ rm, er_max L rm (er_fM L) := Classical.epsilon_spec (p := fun x : Int => ∃ rm, er_max L rm x) ⟨x, rm, h⟩
  obtain ⟨r2, h2⟩ := h2
  exact (er_max_uq h h2).1
def er_fS (L : List er_Ed) (v : Int) : Prop := ∃ rm x, er_max L rm x ∧ er_near L rm v
theorem er_fS_eq {L : List er_Ed} {rm : Int → Int} {x : Int} (h : er_max L rm x) : er_near L rm = er_fS L := by
  funext v
  exact propext ⟨fun z => ⟨rm, x, h, z⟩, fun ⟨r2, x2, h2, z⟩ => ((er_max_uq h2 h).2 v).mp z⟩
theorem er_sd_uniq {S : Int → Prop} {t r1 r2 : Int} (h1 : er_sd S t r1) (h2 : er_sd S t r2) : r1 = r2 := by
  rcases h1 with ⟨a, b⟩ | ⟨a, c, b⟩ | ⟨a, c, b⟩ <;> rcases h2 with ⟨a', b'⟩ | ⟨a', c', b'⟩ | ⟨a', c', b'⟩
  · omega
  · exact absurd a' a
  · exact absurd a' a
  · exact absurd a a'
  · omega
  · exact absurd c c'
  · exact absurd a a'
  · exact absurd c' c
  · omega
noncomputable def er_qSide (b : er_Bo) (p q : Int) : Int := er_if (¬ (0 ≤ p ∧ p ≤ er_bR b ∧ 0 ≤ q ∧ q ≤ er_bC b)) (-1) (Classical.epsilon (fun v : Int => er_sd (er_fS (er_Lsel b)) (7 * p + q) v))
theorem er_qSide_eq {b : er_Bo} {p q v : Int} (h : (¬ (0 ≤ p ∧ p ≤ er_bR b ∧ 0 ≤ q ∧ q ≤ er_bC b) ∧ v = -1) ∨ ((0 ≤ p ∧ p ≤ er_bR b ∧ 0 ≤ q ∧ q ≤ er_bC b) ∧ ∃ x rm, er_max (er_Lsel b) rm x ∧ er_sd (er_near (er_Lsel b) rm) (7 * p + q) v)) : v = er_qSide b p q := by
  unfold er_qSide
  rcases h with ⟨h1, h2⟩ | ⟨h1, x, rm, h2, h3⟩
  · rw [er_if_t h1]; exact h2
  · rw [er_if_f (fun z => z h1)]
    rw [er_fS_eq h2] at h3
    exact er_sd_uniq h3 (Classical.epsilon_spec (p := fun v : Int => er_sd (er_fS (er_Lsel b)) (7 * p + q) v) ⟨v, h3⟩)
/-- no more escape than are selected, and no more are selected than there are -/
theorem er_sel_le {b : er_Bo} {rm : Int → Int} {x : Int} (hv : er_BV b) (h : er_max (er_Lsel b) rm x) : 0 ≤ x ∧ x ≤ er_sig b := by
  have hbo : er_BO (er_bR b) (er_bC b) (er_bh b) (er_bt b) (er_bk b) (fun j => er_ic (er_bk b j = 0)) := er_BO_of hv (fun j _ _ => er_ic_01 _)
  have hs : ∀ i : Nat, i < 36 → 0 ≤ er_bs b (i : Int) ∧ er_bs b (i : Int) ≤ er_ic (er_bk b (i : Int) = 1) := by
    intro i hi
    rcases hv.2.2.2.2.2.2.2.2.2.2.2 (i : Int) (by omega) (by omega) with z | ⟨z1, z2⟩
    · have := er_ic_nn (er_bk b (i : Int) = 1)
      omega
    · rw [er_ic_t z2]; omega
  constructor
  · rw [er_max_cut h]
    refine er_cut_nn _ (fun t ht => ?_)
    unfold er_Lsel er_LC at ht
    rcases List.mem_append.mp ht with ht | ht
    · obtain ⟨p, hp, ht⟩ := er_flat_mem _ ht
      rw [List.mem_singleton.mp ht]
      exact er_ic_nn _
    · rcases List.mem_append.mp ht with ht | ht
      · obtain ⟨r, hr, ht⟩ := er_flat_mem _ ht
        obtain ⟨c, hc, ht⟩ := er_flat_mem _ ht
        unfold er_pinc er_pin4 at ht
        split at ht
        · simp only [List.mem_cons, List.not_mem_nil, or_false] at ht
          rcases ht with rfl | rfl | rfl | rfl <;> exact (by decide : (0 : Int) ≤ 1)
        · simp at ht
      · rcases List.mem_append.mp ht with ht | ht
        · obtain ⟨r, hr, ht⟩ := er_flat_mem _ ht
          obtain ⟨c, hc, ht⟩ := er_flat_mem _ ht
          unfold er_tile at ht
          have h0 := hv.2.2.2.2.2.2.1
          split at ht
          · simp only [List.mem_cons, List.not_mem_nil, or_false] at ht
            rcases ht with rfl | rfl
            · exact h0
            · exact (by decide : (0 : Int) ≤ 1000000)
          · simp only [List.mem_cons, List.not_mem_nil, or_false] at ht
            rw [ht]; exact h0
        · obtain ⟨r, hr, ht⟩ := er_flat_mem _ ht
          obtain ⟨c, hc, ht⟩ := er_flat_mem _ ht
          have h0 := hv.2.2.2.2.1
          have g0 := er_ic_nn (er_bk b (6 * (r : Int) + c) = 0)
          have g1 := er_ic_nn (er_bk b (6 * (r : Int) + (c + 1)) = 0)
          have g2 := er_ic_nn (er_bk b (6 * ((r : Int) + 1) + c) = 0)
          unfold er_chan er_both at ht
          rcases List.mem_append.mp ht with ht | ht
          · split at ht
            · simp only [List.mem_cons, List.not_mem_nil, or_false] at ht
              rcases ht with rfl | rfl <;> simp only <;> omega
            · simp at ht
          · split at ht
            · simp only [List.mem_cons, List.not_mem_nil, or_false] at ht
              rcases ht with rfl | rfl <;> simp only <;> omega
            · simp at ht
  · have hw := er_weak h.1 (S := fun v => v = 0) rfl (fun z => absurd z (by decide))
    rw [h.2.2] at hw
    unfold er_Lsel at hw
    rw [er_LC_cut hbo] at hw
    have e1 : er_sum 36 (fun p => er_ic (er_bk b (p : Int) = 1) * er_fp (fun v => v = 0) p) = 0 := er_sum_zero (fun p _ => by rw [er_fp_out (by omega)]; omega)
    have e2 : ∀ tl M : Int, er_cut (fun v => v = 0) (er_tiles (er_bR b) (er_bC b) tl M) = 0 := fun tl M => er_cut_zero _ (fun t ht => Or.inl (by
      obtain ⟨r, hr, ht⟩ := er_flat_mem _ ht
      obtain ⟨c, hc, ht⟩ := er_flat_mem _ ht
      unfold er_tile at ht
      split at ht
      · simp only [List.mem_cons, List.not_mem_nil, or_false] at ht
        rcases ht with rfl | rfl <;> simp only <;> omega
      · simp only [List.mem_cons, List.not_mem_nil, or_false] at ht
        rw [ht]; simp only; omega))
    have e3 : er_cut (fun v => v = 0) (er_chans (er_bR b) (er_bC b) (er_bh b) (fun j => er_ic (er_bk b j = 0))) = 0 := er_cut_zero _ (fun t ht => Or.inl (by
      obtain ⟨a, c, h1, h2, h3, h4, h5, h6⟩ := er_chans_mem hv.2.1 hv.2.2.2.1 ht
      rw [h5]; omega))
    rw [e1, e2, e2, e3] at hw
    have e4 : er_sum 36 (fun p => er_ic (er_bs b (p : Int) = 1) * er_sp (fun v => v = 0) p) ≤ er_sig b := by
      unfold er_sig
      refine er_sum_le (fun p hp => ?_)
      have hsp := hs p hp
      rw [show er_sp (fun v => v = 0) p = 1 from er_ic_t ⟨rfl, by omega⟩]
      by_cases hz : er_bs b (p : Int) = 1
      · rw [er_ic_t hz]; omega
      · rw [er_ic_f hz]
        have := er_ic_nn (er_bk b (p : Int) = 1)
        omega
    omega
theorem er_both_mono {S : Int → Prop} {a b c1 c2 : Int} (h : c1 ≤ c2) : er_cut S (er_both a b c1) ≤ er_cut S (er_both a b c2) := by
  simp only [er_both, er_cut]
  rcases er_ic_01 (S (87 + a) ∧ ¬ S (38 + b)) with z | z <;> rcases er_ic_01 (S (87 + b) ∧ ¬ S (38 + a)) with y | y <;> rw [z, y] <;> omega
theorem er_chans_mono {S : Int → Prop} {R C : Nat} {ch : Int} {op op' : Int → Int} (hR : R ≤ 6) (hC : C ≤ 6) (h : ∀ j : Int, 0 ≤ j → j < 36 → op j ≤ op' j) : er_cut S (er_chans R C ch op) ≤ er_cut S (er_chans R C ch op') := by
  unfold er_chans
  rw [er_cut_flat, er_cut_flat]
  refine er_sum_le (fun r hr => ?_)
  rw [er_cut_flat, er_cut_flat]
  refine er_sum_le (fun c hc => ?_)
  unfold er_chan
  rw [er_cut_app, er_cut_app]
  have g0 := h (6 * (r : Int) + c) (by omega) (by omega)
  refine Int.add_le_add ?_ ?_
  · by_cases h1 : c + 1 < C
    · rw [if_pos h1, if_pos h1]
      have g1 := h (6 * (r : Int) + (c + 1)) (by omega) (by omega)
      exact er_both_mono (by omega)
    · rw [if_neg h1, if_neg h1]; exact Int.le_refl _
  · by_cases h1 : r + 1 < R
    · rw [if_pos h1, if_pos h1]
      have g1 := h (6 * ((r : Int) + 1) + c) (by omega) (by omega)
      exact er_both_mono (by omega)
    · rw [if_neg h1, if_neg h1]; exact Int.le_refl _
/-- what can escape on a layer is no more than the throughput -/
theorem er_can_le {b : er_Bo} {op : Int → Int} {P : List Nat} {rm : Int → Int} {x : Int} (hv : er_BV b) (hop : ∀ j : Int, 0 ≤ j → j < 36 → op j = 0 ∨ (op j = 1 ∧ er_bk b j ≠ 2)) (hP : ∀ p ∈ P, p < 36 ∧ er_bk b (p : Int) = 1) (hc : er_can b op P) (h : er_max (er_Lthr b) rm x) : (P.length : Int) ≤ x := by
  have hb1 : er_BO (er_bR b) (er_bC b) (er_bh b) (er_bt b) (er_bk b) op := er_BO_of hv (fun j j0 j1 => (hop j j0 j1).imp id (fun z => z.1))
  have hb2 : er_BO (er_bR b) (er_bC b) (er_bh b) (er_bt b) (er_bk b) (fun j => er_ic (er_bk b j ≠ 2)) := er_BO_of hv (fun j _ _ => er_ic_01 _)
  have h1 := hc (er_near (er_Lthr b) rm) (er_near_0 _ _) h.2.1
  refine Int.le_trans h1 ?_
  have e := er_max_cut h
  generalize er_near (er_Lthr b) rm = S at h1 e ⊢
  rw [e]
  unfold er_Lthr
  rw [er_LC_cut hb1, er_LC_cut hb2]
  have a1 : er_sum 36 (fun p => er_ic (p ∈ P) * er_sp S p) ≤ er_sum 36 (fun p => 1000000 * er_ic (er_bk b (p : Int) = 1) * er_sp S p) := by
    refine er_sum_le (fun p hp => ?_)
    have s0 := er_sp_nn S p
    by_cases hm : p ∈ P
    · rw [er_ic_t hm, er_ic_t (hP p hm).2]; omega
    · rw [er_ic_f hm]
      rcases er_ic_01 (er_bk b (p : Int) = 1) with z | z <;> rw [z] <;> omega
  have a2 : 0 ≤ er_sum 36 (fun p => er_ic (er_bk b (p : Int) = 1) * er_fp S p) := er_sum_nonneg (fun p hp => Int.mul_nonneg (er_ic_nn _) (er_fp_nn _ _))
  have a3 := er_chans_mono (S := S) (ch := er_bh b) (op := op) (op' := fun j => er_ic (er_bk b j ≠ 2)) hv.2.1 hv.2.2.2.1 (fun j j0 j1 => by
    show op j ≤ er_ic _
    rcases hop j j0 j1 with z | ⟨z1, z2⟩
    · rw [z]; exact er_ic_nn _
    · rw [z1, er_ic_t z2]; omega)
  omega
theorem er_put_can {b : er_Bo} {op : Int → Int} {l : Int} : ∀ (t seen : List Nat) (f : Int → Int) (P : List Nat), (P = [] ∨ er_can b op P) → ((er_put b op l t seen f P).2 = [] ∨ er_can b op (er_put b op l t seen f P).2) := by
  intro t
  induction t with
  | nil => intro seen f P h; exact h
  | cons p t ih =>
    intro seen f P h
    simp only [er_put]
    by_cases hc : er_due b seen f p ∧ er_can b op (P ++ er_pp b p)
    · rw [er_if_t hc]
      exact ih _ _ _ (Or.inr hc.2)
    · rw [er_if_f hc]
      exact ih _ _ _ h
theorem er_lays_le {b : er_Bo} {seq : List Nat} {rm : Int → Int} {x : Int} (hv : er_BV b) (hq : ∀ p ∈ seq, p < 36) (hn : seq.Nodup) (h : er_max (er_Lthr b) rm x) : ∀ (k : Nat) (l : Int) (f : Int → Int) (left : Int), 1 ≤ l → er_LI b f → (er_lays b seq k l f left).2.2 = 1 → left ≤ ((er_lays b seq k l f left).2.1 - (l - 1)) * x := by
  intro k
  induction k with
  | zero => intro l f left _ _ h1; exact absurd h1 (by show ¬ (0 : Int) = 1; decide)
  | succ k ih =>
    intro l f left hl hI
    simp only [er_lays]
    by_cases h1 : left ≤ 0
    · rw [if_pos h1]
      intro _
      show left ≤ (l - 1 - (l - 1)) * x
      rw [Int.sub_self, Int.zero_mul]
      exact h1
    · rw [if_neg h1]
      by_cases h2 : (er_put b (er_opn b f) l seq [] f []).2 = []
      · rw [er_if_t h2]; intro z; exact absurd z (by show ¬ (0 : Int) = 1; decide)
      · rw [er_if_f h2]
        intro hok
        have hPI := er_put_PI (op := er_opn b f) hv (show l ≠ 0 by omega) seq [] f [] hq (by simpa using hn) (er_PI2_0 hI)
        have hcan := (er_put_can (b := b) (op := er_opn b f) (l := l) seq [] f [] (Or.inl rfl)).resolve_left h2
        have hle := er_can_le hv (op := er_opn b f) (fun j j0 j1 => by
          show (if er_bk b j = 0 ∨ f j ≠ 0 then (1 : Int) else 0) = 0 ∨ ((if er_bk b j = 0 ∨ f j ≠ 0 then (1 : Int) else 0) = 1 ∧ er_bk b j ≠ 2)
          by_cases hz : er_bk b j = 0 ∨ f j ≠ 0
          · rw [if_pos hz]
            refine Or.inr ⟨rfl, ?_⟩
            rcases hz with z | z
            · omega
            · have := hI.2 j j0 j1 z; omega
          · rw [if_neg hz]; exact Or.inl rfl) (fun p hp => ⟨(hPI.2.2.1 p hp).1, (hPI.2.2.1 p hp).2.1⟩) hcan h
        have i2 := ih (l + 1) _ _ (by omega) hPI.1 hok
        generalize (er_lays b seq k (l + 1) (er_put b (er_opn b f) l seq [] f []).1 (left - ((er_put b (er_opn b f) l seq [] f []).2.length : Int))).2.1 = N at i2 ⊢
        rw [show N - (l - 1) = (N - (l + 1 - 1)) + 1 by omega, Int.add_mul, Int.one_mul]
        omega
theorem er_lays_bd (b : er_Bo) (seq : List Nat) : ∀ (k : Nat) (l : Int) (f : Int → Int) (left : Int), 1 ≤ l → 0 ≤ (er_lays b seq k l f left).2.1 ∧ ((er_lays b seq k l f left).2.2 = 1 → (er_lays b seq k l f left).2.1 ≤ l + k - 2) := by
  intro k
  induction k with
  | zero => intro l f left hl; exact ⟨by show 0 ≤ l - 1; omega, fun z => absurd z (by show ¬ (0 : Int) = 1; decide)⟩
  | succ k ih =>
    intro l f left hl
    simp only [er_lays]
    by_cases h1 : left ≤ 0
    · rw [if_pos h1]; exact ⟨by show 0 ≤ l - 1; omega, fun _ => by show l - 1 ≤ _; omega⟩
    · rw [if_neg h1]
      by_cases h2 : (er_put b (er_opn b f) l seq [] f []).2 = []
      · rw [er_if_t h2]; exact ⟨by show 0 ≤ l - 1; omega, fun z => absurd z (by show ¬ (0 : Int) = 1; decide)⟩
      · rw [er_if_f h2]
        have := ih (l + 1) (er_put b (er_opn b f) l seq [] f []).1 (left - ((er_put b (er_opn b f) l seq [] f []).2.length : Int)) (by omega)
        exact ⟨this.1, fun z => by have := this.2 z; omega⟩
theorem er_qCount_in (b : er_Bo) (s : Int) : -9 ≤ er_qCount b s ∧ er_qCount b s ≤ 36 := by
  unfold er_qCount
  by_cases hs : 0 ≤ s ∧ s < 4
  · rw [er_if_f (fun z => z hs)]
    have := er_lays_bd b (er_seq (er_bR b) (er_bC b) s.toNat) 37 1 (fun _ => 0) (er_sig b) (by decide)
    split
    · next hk => exact ⟨by have := this.1; unfold er_lay; omega, by have := this.2 hk; unfold er_lay; omega⟩
    · omega
  · rw [er_if_t hs]; omega
/-- a layering has no fewer layers than the lower bound -/
theorem er_bound_le {b : er_Bo} {v : Int} {s : Int} (hv : er_BV b) (hs : 0 ≤ s ∧ s < 4) (h : (er_sig b = 0 ∧ v = 0) ∨ (er_sig b ≠ 0 ∧ ∃ x rm, er_max (er_Lthr b) rm x ∧ ((0 < x ∧ v = (er_sig b + x - 1) / x) ∨ (x = 0 ∧ v = -9)))) (hq : 0 ≤ er_qCount b s) : 0 ≤ v ∧ v ≤ er_qCount b s := by
  rcases h with ⟨h1, h2⟩ | ⟨h1, x, rm, h2, h3⟩
  · omega
  · have hsb := er_sig_bd b
    have hsq := er_seq_all (er_bR b) (by have := hv.2.1; omega) (er_bC b) (by have := hv.2.2.2.1; omega) s.toNat (by omega)
    have hLI : er_LI b (fun _ => 0) := ⟨fun j _ _ _ => by simp, fun j _ _ z => absurd rfl z⟩
    have hle := er_lays_le hv (fun p hp => (hsq.2.1 p hp).2.2) hsq.2.2.2.2 h2 37 1 (fun _ => 0) (er_sig b) (by decide) hLI
    unfold er_qCount at hq ⊢
    rw [er_if_f (fun z => z hs)] at hq ⊢
    by_cases hk : (er_lay b s.toNat).2.2 = 1
    · rw [if_pos hk] at hq ⊢
      have hle2 := hle hk
      have e : (er_lays b (er_seq (er_bR b) (er_bC b) s.toNat) 37 1 (fun _ => 0) (er_sig b)).2.1 = (er_lay b s.toNat).2.1 := rfl
      rw [e] at hle2
      generalize (er_lay b s.toNat).2.1 = N at hle2 hq ⊢
      rw [show N - (1 - 1) = N by omega] at hle2
      rcases h3 with ⟨a1, a2⟩ | ⟨a1, a2⟩
      · rw [a2]
        refine ⟨Int.ediv_nonneg (by omega) (by omega), ?_⟩
        have : (er_sig b + x - 1) / x < N + 1 := Int.ediv_lt_of_lt_mul a1 (by rw [Int.add_mul, Int.one_mul]; omega)
        omega
      · rw [a1, Int.mul_zero] at hle2
        omega
    · rw [if_neg hk] at hq
      omega
theorem er_bound_z {b : er_Bo} {v : Int} (h : (er_sig b = 0 ∧ v = 0) ∨ (er_sig b ≠ 0 ∧ ∃ x rm, er_max (er_Lthr b) rm x ∧ ((0 < x ∧ v = (er_sig b + x - 1) / x) ∨ (x = 0 ∧ v = -9)))) : (er_sig b = 0 ↔ v = 0) ∧ -9 ≤ v ∧ v ≤ 36 := by
  have hsb := er_sig_bd b
  rcases h with ⟨h1, h2⟩ | ⟨h1, x, rm, h2, ⟨a1, a2⟩ | ⟨a1, a2⟩⟩
  · omega
  · have g1 : 1 ≤ (er_sig b + x - 1) / x := (Int.le_ediv_iff_mul_le a1).mpr (by omega)
    have g2 : (er_sig b + x - 1) / x < 37 := Int.ediv_lt_of_lt_mul a1 (by
      have h3 : er_sig b * 1 ≤ er_sig b * x := Int.mul_le_mul_of_nonneg_left (by omega) hsb.1
      have h4 : er_sig b * x ≤ 36 * x := Int.mul_le_mul_of_nonneg_right hsb.2 (by omega)
      rw [show (37 : Int) * x = 36 * x + x by omega]
      omega)
    omega
  · omega
