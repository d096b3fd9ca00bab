/-! the two lists of edges, the class's and the reference's: same cuts -/
theorem er_flat_mem {f : Nat → List er_Ed} {t : er_Ed} : ∀ n : Nat, t ∈ er_flat n f → ∃ i, i < n ∧ t ∈ f i := by
  intro n
  induction n with
  | zero => intro h; simp [er_flat] at h
  | succ n ih =>
    intro h
    rcases List.mem_append.mp h with h | h
    · obtain ⟨i, h1, h2⟩ := ih h
      exact ⟨i, by omega, h2⟩
    · exact ⟨n, by omega, h⟩
theorem er_cut_flat (S : Int → Prop) (f : Nat → List er_Ed) : ∀ n : Nat, er_cut S (er_flat n f) = er_sum n (fun i => er_cut S (f i)) := by
  intro n
  induction n with
  | zero => rfl
  | succ n ih => simp only [er_flat, er_sum]; rw [er_cut_app, ih]
theorem er_cut_zero {S : Int → Prop} : ∀ L : List er_Ed, (∀ t ∈ L, ¬ S t.1 ∨ S t.2.1 ∨ t.2.2 = 0) → er_cut S L = 0 := by
  intro L
  induction L with
  | nil => intro _; rfl
  | cons t l ih =>
    intro h
    simp only [er_cut]
    rw [ih (fun u hu => h u (List.mem_cons_of_mem _ hu))]
    rcases h t List.mem_cons_self with h1 | h1 | h1
    · rw [er_ic_f (fun z => h1 z.1)]; omega
    · rw [er_ic_f (fun z => z.2 h1)]; omega
    · rw [h1]; omega
theorem er_cut_nn {S : Int → Prop} : ∀ L : List er_Ed, (∀ t ∈ L, 0 ≤ t.2.2) → 0 ≤ er_cut S L := by
  intro L
  induction L with
  | nil => intro _; exact Int.le_refl _
  | cons t l ih =>
    intro h
    simp only [er_cut]
    have h1 := ih (fun u hu => h u (List.mem_cons_of_mem _ hu))
    have h2 := h t List.mem_cons_self
    rcases er_ic_01 (S t.1 ∧ ¬ S t.2.1) with z | z <;> rw [z] <;> omega
/-- tiles: what is finite, and what is without a limit -/
theorem er_cut_tiles (S : Int → Prop) (R C : Nat) (tl M : Int) : er_cut S (er_tiles R C tl M) = er_cut S (er_tiles R C tl 0) + M * er_cut S (er_tiles R C 0 1) := by
  unfold er_tiles
  rw [er_cut_flat, er_cut_flat, er_cut_flat, ← er_sum_mul, ← er_sum_add]
  refine er_sum_congr (fun r _ => ?_)
  rw [er_cut_flat, er_cut_flat, er_cut_flat, ← er_sum_mul, ← er_sum_add]
  refine er_sum_congr (fun c _ => ?_)
  unfold er_tile
  split
  · simp only [er_cut]
    rcases er_ic_01 (S (38 + (7 * (r : Int) + c)) ∧ ¬ S (87 + (7 * (r : Int) + c))) with z | z <;> rcases er_ic_01 (S (87 + (7 * (r : Int) + c)) ∧ ¬ S 1) with y | y <;> rw [z, y] <;> omega
  · simp only [er_cut]
    omega
/-- a pin's edges to its tiles; its edge from the source -/
noncomputable def er_fp (S : Int → Prop) (p : Nat) : Int := er_cut S (er_pin4 (p / 6) (p % 6) 1)
noncomputable def er_sp (S : Int → Prop) (p : Nat) : Int := er_ic (S 0 ∧ ¬ S (2 + (p : Int)))
theorem er_pin4_w (S : Int → Prop) (r c : Nat) (w : Int) : er_cut S (er_pin4 r c w) = w * er_cut S (er_pin4 r c 1) := by
  simp only [er_pin4, er_cut]
  simp only [Int.mul_add, Int.mul_zero, Int.one_mul, Int.add_zero]
theorem er_fp_nn (S : Int → Prop) (p : Nat) : 0 ≤ er_fp S p := er_cut_nn _ (fun t ht => by simp [er_pin4] at ht; rcases ht with rfl | rfl | rfl | rfl <;> exact (show (0 : Int) ≤ 1 by decide))
theorem er_sp_nn (S : Int → Prop) (p : Nat) : 0 ≤ er_sp S p := er_ic_nn _
theorem er_fp_out {S : Int → Prop} {p : Nat} (h : ¬ S (2 + (p : Int))) : er_fp S p = 0 := by
  refine er_cut_zero _ (fun t ht => Or.inl ?_)
  have e : 6 * ((p / 6 : Nat) : Int) + ((p % 6 : Nat) : Int) = p := by omega
  simp only [er_pin4, List.mem_cons, List.not_mem_nil, or_false] at ht
  rcases ht with rfl | rfl | rfl | rfl <;> (rw [← e] at h; exact h)
/-- a sum over the places of the grid is one over all places -/
theorem er_sum_grid {R C : Nat} (hR : R ≤ 6) (hC : C ≤ 6) (g : Nat → Int) (ho : ∀ p, p < 36 → ¬ (p / 6 < R ∧ p % 6 < C) → g p = 0) : er_sum R (fun r => er_sum C (fun c => g (6 * r + c))) = er_sum 36 g := by
  have h1 : ∀ (n k : Nat) (f : Nat → Int), (∀ i, k ≤ i → i < k + n → f i = 0) → er_sum (k + n) f = er_sum k f := by
    intro n
    induction n with
    | zero => intro k f _; rfl
    | succ n ih =>
      intro k f hf
      rw [show k + (n + 1) = (k + n) + 1 by omega]
      simp only [er_sum]
      rw [ih k f (fun i h1 h2 => hf i h1 (by omega)), hf (k + n) (by omega) (by omega)]
      omega
  have h2 : ∀ r, r < 6 → er_sum C (fun c => g (6 * r + c)) = er_sum 6 (fun c => g (6 * r + c)) := by
    intro r hr
    have := h1 (6 - C) C (fun c => g (6 * r + c)) (fun i h1 h2 => ho _ (by omega) (by omega))
    rw [show C + (6 - C) = 6 by omega] at this
    exact this.symm
  have h3 : er_sum R (fun r => er_sum C (fun c => g (6 * r + c))) = er_sum 6 (fun r => er_sum C (fun c => g (6 * r + c))) := by
    have := h1 (6 - R) R (fun r => er_sum C (fun c => g (6 * r + c))) (fun i h1 h2 => er_sum_zero (fun c hc => ho _ (by omega) (by omega)))
    rw [show R + (6 - R) = 6 by omega] at this
    exact this.symm
  rw [h3, er_sum_congr (n := 6) (g := fun r => er_sum 6 (fun c => g (6 * r + c))) h2]
  simp only [er_sum]
  simp only [Nat.mul_zero, Nat.zero_add, Nat.mul_one, Nat.reduceMul, Nat.reduceAdd, Nat.add_zero]
  omega
theorem er_cut_srcs (S : Int → Prop) (sup : Nat → Int) : er_cut S (er_srcs sup) = er_sum 36 (fun p => sup p * er_sp S p) := by
  unfold er_srcs
  rw [er_cut_flat]
  refine er_sum_congr (fun p _ => ?_)
  simp only [er_cut]
  rw [Int.add_zero]
  rfl
theorem er_cut_pins {S : Int → Prop} {R C : Nat} (hR : R ≤ 6) (hC : C ≤ 6) {kd : Int → Int} (ho : ∀ p : Nat, p < 36 → ¬ (p / 6 < R ∧ p % 6 < C) → kd p ≠ 1) (w : Int) : er_cut S (er_pins R C kd w) = w * er_sum 36 (fun p => er_ic (kd (p : Int) = 1) * er_fp S p) := by
  rw [← er_sum_grid hR hC (fun p => er_ic (kd (p : Int) = 1) * er_fp S p) (fun p hp hn => by show er_ic _ * _ = 0; rw [er_ic_f (ho p hp hn)]; omega), ← er_sum_mul]
  unfold er_pins
  rw [er_cut_flat]
  refine er_sum_congr (fun r hr => ?_)
  rw [er_cut_flat, ← er_sum_mul]
  refine er_sum_congr (fun c hc => ?_)
  have e1 : kd ((6 * r + c : Nat) : Int) = kd (6 * (r : Int) + c) := by congr 1
  have e2 : er_fp S (6 * r + c) = er_cut S (er_pin4 r c 1) := by
    unfold er_fp
    rw [show (6 * r + c) / 6 = r by omega, show (6 * r + c) % 6 = c by omega]
  show er_cut S (er_pinc kd w r c) = w * (er_ic (kd ((6 * r + c : Nat) : Int) = 1) * er_fp S (6 * r + c))
  rw [e1, e2]
  unfold er_pinc
  by_cases hk : kd (6 * (r : Int) + c) = 1
  · rw [if_pos hk, er_ic_t hk, er_pin4_w, Int.one_mul]
  · rw [if_neg hk, er_ic_f hk]
    simp [er_cut]
/-- the reference's edges of the pins in P -/
def er_mp (w : Int) : List Nat → List er_Ed
  | [] => []
  | p :: P => ((0, 2 + (p : Int), w) :: er_pin4 (p / 6) (p % 6) w) ++ er_mp w P
def er_LM (R C : Nat) (ch tl : Int) (op : Int → Int) (w : Int) (P : List Nat) : List er_Ed := er_tiles R C tl 100000 ++ (er_chans R C ch op ++ er_mp w P)
theorem er_sum_list {P : List Nat} (hP : ∀ p ∈ P, p < 36) (hn : P.Nodup) (g : Nat → Int) : er_sum 36 (fun p => er_ic (p ∈ P) * g p) = (P.map g).sum := by
  induction P with
  | nil => exact er_sum_zero (fun p _ => by rw [er_ic_f (by simp)]; omega)
  | cons q P ih =>
    have h1 := ih (fun p hp => hP p (List.mem_cons_of_mem _ hp)) (List.nodup_cons.mp hn).2
    rw [er_sum_one (k := q) (g := fun p => er_ic (p ∈ P) * g p) (hP q List.mem_cons_self) (fun i _ hi => by rw [er_ic_iff (show i ∈ q :: P ↔ i ∈ P from ⟨fun z => (List.mem_cons.mp z).resolve_left hi, List.mem_cons_of_mem _⟩)]), h1, er_ic_t List.mem_cons_self, er_ic_f (List.nodup_cons.mp hn).1]
    simp only [List.map_cons, List.sum_cons]
    omega
theorem er_cut_mp (S : Int → Prop) (w : Int) (P : List Nat) : er_cut S (er_mp w P) = w * (P.map (fun p => er_sp S p + er_fp S p)).sum := by
  induction P with
  | nil => simp [er_mp, er_cut]
  | cons q P ih =>
    simp only [er_mp, List.map_cons, List.sum_cons]
    rw [er_cut_app, ih]
    simp only [er_cut]
    rw [er_pin4_w, Int.mul_add, Int.mul_add]
    rfl
/-- the cut around the rim -/
def er_rimcut (R C : Nat) (v : Int) : Prop := v ≠ 1 ∧ ∀ r c : Nat, r ≤ R → c ≤ C → (r = 0 ∨ r = R ∨ c = 0 ∨ c = C) → v ≠ 87 + (7 * (r : Int) + c)
theorem er_rim_tiles {R C : Nat} (hR : R ≤ 6) (hC : C ≤ 6) {tl : Int} (h0 : 0 ≤ tl) (h9 : tl ≤ 9) (M : Int) : er_cut (er_rimcut R C) (er_tiles R C tl M) ≤ 216 := by
  have h1 : ∀ r, r < R + 1 → ∀ c, c < C + 1 → er_cut (er_rimcut R C) (er_tile R C tl M r c) ≤ 9 * (((er_tile R C tl M r c).length : Int) - 1) := by
    intro r hr c hc
    unfold er_tile
    by_cases hrim : r = 0 ∨ r = R ∨ c = 0 ∨ c = C
    · rw [if_pos hrim]
      simp only [er_cut, List.length_cons, List.length_nil]
      rw [er_ic_f (show ¬ (er_rimcut R C (87 + (7 * (r : Int) + c)) ∧ ¬ er_rimcut R C 1) from fun z => z.1.2 r c (by omega) (by omega) hrim rfl)]
      rcases er_ic_01 (er_rimcut R C (38 + (7 * (r : Int) + c)) ∧ ¬ er_rimcut R C (87 + (7 * (r : Int) + c))) with z | z <;> rw [z] <;> omega
    · rw [if_neg hrim]
      simp only [er_cut, List.length_cons, List.length_nil]
      rw [er_ic_f (fun z => z.2 ⟨by omega, fun r' c' hr' hc' hrim' he => hrim (by
        have : r = r' ∧ c = c' := by omega
        rw [this.1, this.2]; exact hrim')⟩)]
      omega
  have h2 : ∀ (f : Nat → List er_Ed) (n : Nat), er_sum n (fun i => ((f i).length : Int)) = ((er_flat n f).length : Int) := by
    intro f n
    induction n with
    | zero => rfl
    | succ n ih => simp only [er_sum, er_flat, List.length_append]; rw [ih]; omega
  have h3 : er_cut (er_rimcut R C) (er_tiles R C tl M) ≤ 9 * (((er_tiles R C tl M).length : Int) - (R + 1) * (C + 1)) := by
    unfold er_tiles
    rw [er_cut_flat]
    have h4 : ∀ r, r < R + 1 → er_cut (er_rimcut R C) (er_flat (C + 1) (fun c => er_tile R C tl M r c)) ≤ 9 * (((er_flat (C + 1) (fun c => er_tile R C tl M r c)).length : Int) - (C + 1)) := by
      intro r hr
      rw [er_cut_flat]
      refine Int.le_trans (er_sum_le (fun c hc => h1 r hr c hc)) ?_
      have h2' : er_sum (C + 1) (fun i => ((er_tile R C tl M r i).length : Int)) = ((er_flat (C + 1) (fun c => er_tile R C tl M r c)).length : Int) := h2 _ _
      rw [er_sum_mul, er_sum_sub, h2', er_sum_ones]
      omega
    refine Int.le_trans (er_sum_le h4) ?_
    rw [er_sum_mul, er_sum_sub, h2, show (fun _ : Nat => ((C : Int) + 1)) = (fun _ => ((C : Int) + 1) * 1) by funext _; omega, er_sum_mul, er_sum_ones, Int.mul_comm ((C : Int) + 1)]
    exact Int.le_refl _
  have e1 : (er_tiles R C tl M).length = (er_tiles R C 0 0).length := er_flat_len _ (fun r _ => er_flat_len _ (fun c _ => by
    unfold er_tile
    split <;> rfl))
  have h5 : ∀ R, R < 7 → ∀ C, C < 7 → (er_tiles R C 0 0).length ≤ (R + 1) * (C + 1) + 24 := by decide +kernel
  have h6 := h5 R (by omega) C (by omega)
  rw [e1] at h3
  have h7 : (((er_tiles R C 0 0).length : Nat) : Int) ≤ ((R : Int) + 1) * (C + 1) + 24 := by
    have : (((er_tiles R C 0 0).length : Nat) : Int) ≤ (((R + 1) * (C + 1) + 24 : Nat) : Int) := Int.ofNat_le.mpr h6
    rw [Int.natCast_add, Int.natCast_mul] at this
    exact this
  omega
theorem er_chans_mem {R C : Nat} {ch : Int} {op : Int → Int} {t : er_Ed} (hR : R ≤ 6) (hC : C ≤ 6) (h : t ∈ er_chans R C ch op) : ∃ a b : Int, 0 ≤ a ∧ a < 49 ∧ 0 ≤ b ∧ b < 49 ∧ t.1 = 87 + a ∧ t.2.1 = 38 + b := by
  obtain ⟨r, hr, h⟩ := er_flat_mem _ h
  obtain ⟨c, hc, h⟩ := er_flat_mem _ h
  unfold er_chan er_both at h
  rcases List.mem_append.mp h with h | h
  · split at h
    · simp only [List.mem_cons, List.not_mem_nil, or_false] at h
      rcases h with rfl | rfl
      · exact ⟨_, _, by omega, by omega, by omega, by omega, rfl, rfl⟩
      · exact ⟨_, _, by omega, by omega, by omega, by omega, rfl, rfl⟩
    · simp at h
  · split at h
    · simp only [List.mem_cons, List.not_mem_nil, or_false] at h
      rcases h with rfl | rfl
      · exact ⟨_, _, by omega, by omega, by omega, by omega, rfl, rfl⟩
      · exact ⟨_, _, by omega, by omega, by omega, by omega, rfl, rfl⟩
    · simp at h
theorem er_rim_chans {R C : Nat} (hR : R ≤ 6) (hC : C ≤ 6) (ch : Int) (op : Int → Int) : er_cut (er_rimcut R C) (er_chans R C ch op) = 0 := by
  refine er_cut_zero _ (fun t ht => Or.inr (Or.inl ?_))
  obtain ⟨a, b, h1, h2, h3, h4, h5, h6⟩ := er_chans_mem hR hC ht
  rw [h6]
  exact ⟨by omega, fun r c _ _ _ z => by omega⟩
theorem er_rim_pin {R C : Nat} (p : Nat) (hp : p < 36) : er_sp (er_rimcut R C) p = 0 ∧ er_fp (er_rimcut R C) p = 0 := by
  constructor
  · exact er_ic_f (fun z => z.2 ⟨by omega, fun r c _ _ _ y => by omega⟩)
  · refine er_cut_zero _ (fun t ht => Or.inr (Or.inl ?_))
    simp only [er_pin4, List.mem_cons, List.not_mem_nil, or_false] at ht
    rcases ht with rfl | rfl | rfl | rfl <;> exact ⟨by simp only; omega, fun r c _ _ _ y => by simp only at y; omega⟩
/-- what is said of a board for its networks -/
def er_BO (R C : Nat) (ch tl : Int) (kd op : Int → Int) : Prop := R ≤ 6 ∧ C ≤ 6 ∧ 0 ≤ ch ∧ 0 ≤ tl ∧ tl ≤ 9 ∧ (∀ p : Nat, p < 36 → ¬ (p / 6 < R ∧ p % 6 < C) → kd p ≠ 1) ∧ (∀ j : Int, 0 ≤ j → j < 36 → op j = 0 ∨ op j = 1)
theorem er_LC_cut {R C : Nat} {ch tl : Int} {kd op : Int → Int} (h : er_BO R C ch tl kd op) (S : Int → Prop) (w : Int) (sup : Nat → Int) : er_cut S (er_LC R C ch tl kd op w sup) = er_sum 36 (fun p => sup p * er_sp S p) + (w * er_sum 36 (fun p => er_ic (kd (p : Int) = 1) * er_fp S p) + (er_cut S (er_tiles R C tl 0) + 1000000 * er_cut S (er_tiles R C 0 1) + er_cut S (er_chans R C ch op))) := by
  unfold er_LC
  rw [er_cut_app, er_cut_app, er_cut_app, er_cut_srcs, er_cut_pins h.1 h.2.1 h.2.2.2.2.2.1, er_cut_tiles S R C tl 1000000]
theorem er_LM_cut (S : Int → Prop) (R C : Nat) (ch tl : Int) (op : Int → Int) (w : Int) (P : List Nat) : er_cut S (er_LM R C ch tl op w P) = er_cut S (er_tiles R C tl 0) + 100000 * er_cut S (er_tiles R C 0 1) + (er_cut S (er_chans R C ch op) + w * (P.map (fun p => er_sp S p + er_fp S p)).sum) := by
  unfold er_LM
  rw [er_cut_app, er_cut_app, er_cut_tiles S R C tl 100000, er_cut_mp]
theorem er_LC_bound {R C : Nat} {ch tl : Int} {kd op : Int → Int} (h : er_BO R C ch tl kd op) (w : Int) (sup : Nat → Int) {rm : Int → Int} (hf : er_FO (er_LC R C ch tl kd op w sup) rm) : er_exc (er_LC R C ch tl kd op w sup) rm 0 ≤ 216 := by
  have hw := er_weak hf (S := er_rimcut R C) ⟨by decide, fun r c _ _ _ y => by omega⟩ (fun z => z.1 rfl)
  have ht := er_rim_tiles h.1 h.2.1 h.2.2.2.1 h.2.2.2.2.1 1000000
  rw [er_LC_cut h, er_sum_zero (fun p hp => by rw [(er_rim_pin p hp).1]; omega), er_sum_zero (fun p hp => by rw [(er_rim_pin p hp).2]; omega), er_rim_chans h.1 h.2.1, ← er_cut_tiles] at hw
  omega
theorem er_LM_bound {R C : Nat} {ch tl : Int} {op : Int → Int} (hR : R ≤ 6) (hC : C ≤ 6) (h0 : 0 ≤ tl) (h9 : tl ≤ 9) (w : Int) {P : List Nat} (hP : ∀ p ∈ P, p < 36) {rm : Int → Int} (hf : er_FO (er_LM R C ch tl op w P) rm) : er_exc (er_LM R C ch tl op w P) rm 0 ≤ 216 := by
  have hw := er_weak hf (S := er_rimcut R C) ⟨by decide, fun r c _ _ _ y => by omega⟩ (fun z => z.1 rfl)
  have ht := er_rim_tiles hR hC h0 h9 100000
  have hs : (P.map (fun p => er_sp (er_rimcut R C) p + er_fp (er_rimcut R C) p)).sum = 0 := by
    clear hw hf
    induction P with
    | nil => rfl
    | cons q P ih =>
      have hq := er_rim_pin (R := R) (C := C) q (hP q List.mem_cons_self)
      simp only [List.map_cons, List.sum_cons]
      rw [ih (fun p hp => hP p (List.mem_cons_of_mem _ hp)), hq.1, hq.2]
      rfl
  rw [er_LM_cut, hs, er_rim_chans hR hC, Int.mul_zero, ← er_cut_tiles] at hw
  omega
