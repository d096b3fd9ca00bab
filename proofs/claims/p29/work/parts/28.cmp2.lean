/-! same greatest flow, same near side -/
theorem er_flat_congr {f g : Nat → List er_Ed} : ∀ n : Nat, (∀ i, i < n → f i = g i) → er_flat n f = er_flat n g := by
  intro n
  induction n with
  | zero => intro _; rfl
  | succ n ih => intro h; simp only [er_flat]; rw [ih (fun i hi => h i (by omega)), h n (by omega)]
theorem er_chans_congr {R C : Nat} {ch : Int} {op op' : Int → Int} (hR : R ≤ 6) (hC : C ≤ 6) (h : ∀ j : Int, 0 ≤ j → j < 36 → op j = op' j) : er_chans R C ch op = er_chans R C ch op' := by
  refine er_flat_congr _ (fun r hr => er_flat_congr _ (fun c hc => ?_))
  unfold er_chan
  rw [h (6 * (r : Int) + c) (by omega) (by omega)]
  by_cases h1 : c + 1 < C
  · rw [h (6 * (r : Int) + (c + 1)) (by omega) (by omega)]
    by_cases h2 : r + 1 < R
    · rw [h (6 * ((r : Int) + 1) + c) (by omega) (by omega)]
    · rw [if_neg h2, if_neg h2]
  · rw [if_neg h1, if_neg h1]
    by_cases h2 : r + 1 < R
    · rw [h (6 * ((r : Int) + 1) + c) (by omega) (by omega)]
    · rw [if_neg h2, if_neg h2]
theorem er_pins_congr {R C : Nat} {kd kd' : Int → Int} {w : Int} (hR : R ≤ 6) (hC : C ≤ 6) (h : ∀ j : Int, 0 ≤ j → j < 36 → kd j = kd' j) : er_pins R C kd w = er_pins R C kd' w := by
  refine er_flat_congr _ (fun r hr => er_flat_congr _ (fun c hc => ?_))
  unfold er_pinc
  rw [h (6 * (r : Int) + c) (by omega) (by omega)]
theorem er_LC_congr {R C : Nat} {ch tl w : Int} {kd kd' op op' : Int → Int} {sup sup' : Nat → Int} (hR : R ≤ 6) (hC : C ≤ 6) (h : ∀ j : Int, 0 ≤ j → j < 36 → kd j = kd' j) (h2 : ∀ j : Int, 0 ≤ j → j < 36 → op j = op' j) (h3 : ∀ p : Nat, p < 36 → sup p = sup' p) : er_LC R C ch tl kd op w sup = er_LC R C ch tl kd' op' w sup' := by
  unfold er_LC er_srcs
  rw [er_pins_congr hR hC h, er_chans_congr hR hC h2, er_flat_congr 36 (fun p hp => by rw [h3 p hp])]
theorem er_tiles_nn {S : Int → Prop} {R C : Nat} {tl M : Int} (h0 : 0 ≤ tl) (hM : 0 ≤ M) : 0 ≤ er_cut S (er_tiles R C tl M) := by
  refine er_cut_nn _ (fun t ht => ?_)
  obtain ⟨r, hr, ht⟩ := er_flat_mem _ ht
  obtain ⟨c, hc, ht⟩ := er_flat_mem _ ht
  unfold er_tile at ht
  split at ht
  · simp only [List.mem_cons, List.not_mem_nil, or_false] at ht
    rcases ht with rfl | rfl
    · exact h0
    · exact hM
  · simp only [List.mem_cons, List.not_mem_nil, or_false] at ht
    rw [ht]
    exact h0
theorem er_chans_nn {S : Int → Prop} {R C : Nat} {ch : Int} {op : Int → Int} (hR : R ≤ 6) (hC : C ≤ 6) (h0 : 0 ≤ ch) (h : ∀ j : Int, 0 ≤ j → j < 36 → op j = 0 ∨ op j = 1) : 0 ≤ er_cut S (er_chans R C ch op) := by
  refine er_cut_nn _ (fun t ht => ?_)
  obtain ⟨r, hr, ht⟩ := er_flat_mem _ ht
  obtain ⟨c, hc, ht⟩ := er_flat_mem _ ht
  have g0 := h (6 * (r : Int) + c) (by omega) (by omega)
  unfold er_chan er_both at ht
  rcases List.mem_append.mp ht with ht | ht
  · split at ht
    · have g1 := h (6 * (r : Int) + (c + 1)) (by omega) (by omega)
      simp only [List.mem_cons, List.not_mem_nil, or_false] at ht
      rcases ht with rfl | rfl <;> simp only <;> omega
    · simp at ht
  · split at ht
    · have g1 := h (6 * ((r : Int) + 1) + c) (by omega) (by omega)
      simp only [List.mem_cons, List.not_mem_nil, or_false] at ht
      rcases ht with rfl | rfl <;> simp only <;> omega
    · simp at ht
theorem er_mp_mem {w : Int} {t : er_Ed} : ∀ P : List Nat, t ∈ er_mp w P → ∃ p ∈ P, (t.1 = 0 ∧ t.2.1 = 2 + (p : Int)) ∨ (t.1 = 2 + (p : Int) ∧ 38 ≤ t.2.1) := by
  intro P
  induction P with
  | nil => intro h; simp [er_mp] at h
  | cons p P ih =>
    intro h
    simp only [er_mp] at h
    rcases List.mem_append.mp h with h | h
    · refine ⟨p, List.mem_cons_self, ?_⟩
      simp only [er_pin4, List.mem_cons, List.not_mem_nil, or_false] at h
      rcases h with rfl | rfl | rfl | rfl | rfl
      · exact Or.inl ⟨rfl, rfl⟩
      all_goals refine Or.inr ⟨?_, ?_⟩ <;> simp only <;> omega
    · obtain ⟨q, hq, hh⟩ := ih h
      exact ⟨q, List.mem_cons_of_mem _ hq, hh⟩
theorem er_LM_mem {R C : Nat} {ch tl : Int} {op : Int → Int} {w : Int} {P : List Nat} (hR : R ≤ 6) (hC : C ≤ 6) {t : er_Ed} (h : t ∈ er_LM R C ch tl op w P) : (38 ≤ t.1 ∧ (38 ≤ t.2.1 ∨ t.2.1 = 1)) ∨ ∃ p ∈ P, (t.1 = 0 ∧ t.2.1 = 2 + (p : Int)) ∨ (t.1 = 2 + (p : Int) ∧ 38 ≤ t.2.1) := by
  unfold er_LM at h
  rcases List.mem_append.mp h with h | h
  · refine Or.inl ?_
    obtain ⟨r, hr, h⟩ := er_flat_mem _ h
    obtain ⟨c, hc, h⟩ := er_flat_mem _ h
    unfold er_tile at h
    split at h
    · simp only [List.mem_cons, List.not_mem_nil, or_false] at h
      rcases h with rfl | rfl
      · exact ⟨by simp only; omega, Or.inl (by simp only; omega)⟩
      · exact ⟨by simp only; omega, Or.inr rfl⟩
    · simp only [List.mem_cons, List.not_mem_nil, or_false] at h
      rw [h]
      exact ⟨by simp only; omega, Or.inl (by simp only; omega)⟩
  · rcases List.mem_append.mp h with h | h
    · obtain ⟨a, b, h1, h2, h3, h4, h5, h6⟩ := er_chans_mem hR hC h
      exact Or.inl (by omega)
    · exact Or.inr (er_mp_mem P h)
theorem er_g_mem {L : List er_Ed} {i : Nat} (hi : i < L.length) : er_g L i ∈ L := by
  unfold er_g
  rw [List.getD_eq_getElem?_getD, List.getElem?_eq_getElem hi]
  exact List.getElem_mem hi
theorem er_cmp {R C : Nat} {ch tl w1 w2 x1 x2 : Int} {kd op : Int → Int} {sup : Nat → Int} {P : List Nat} {r1 r2 : Int → Int} (h : er_BO R C ch tl kd op) (hP : ∀ p ∈ P, p < 36 ∧ kd (p : Int) = 1) (hnd : P.Nodup) (hsup : ∀ p, p < 36 → sup p = w1 * er_ic (p ∈ P)) (hw : (w1 = 1 ∧ w2 = 1) ∨ (w1 = 1000000 ∧ w2 = 100000))
    (h1 : er_max (er_LC R C ch tl kd op w1 sup) r1 x1) (h2 : er_max (er_LM R C ch tl op w2 P) r2 x2) : x1 = x2 ∧ ∀ v, er_near (er_LC R C ch tl kd op w1 sup) r1 v ↔ er_near (er_LM R C ch tl op w2 P) r2 v := by
  have hP36 : ∀ p ∈ P, p < 36 := fun p hp => (hP p hp).1
  have b1 := er_LC_bound h w1 sup h1.1
  have b2 := er_LM_bound (op := op) (ch := ch) h.1 h.2.1 h.2.2.2.1 h.2.2.2.2.1 w2 hP36 h2.1
  rw [h1.2.2] at b1
  rw [h2.2.2] at b2
  -- the parts of a cut
  have parts : ∀ S : Int → Prop, er_cut S (er_LC R C ch tl kd op w1 sup) = w1 * er_sum 36 (fun p => er_ic (p ∈ P) * er_sp S p) + w1 * er_sum 36 (fun p => er_ic (kd (p : Int) = 1) * er_fp S p) + (er_cut S (er_tiles R C tl 0) + 1000000 * er_cut S (er_tiles R C 0 1) + er_cut S (er_chans R C ch op))
      ∧ er_cut S (er_LM R C ch tl op w2 P) = er_cut S (er_tiles R C tl 0) + 100000 * er_cut S (er_tiles R C 0 1) + (er_cut S (er_chans R C ch op) + w2 * (er_sum 36 (fun p => er_ic (p ∈ P) * er_sp S p) + er_sum 36 (fun p => er_ic (p ∈ P) * er_fp S p))) := by
    intro S
    constructor
    · rw [er_LC_cut h]
      rw [er_sum_congr (n := 36) (f := fun p => sup p * er_sp S p) (g := fun p => w1 * (er_ic (p ∈ P) * er_sp S p)) (fun p hp => by show sup p * _ = _; rw [hsup p hp, Int.mul_assoc]), er_sum_mul]
      omega
    · rw [er_LM_cut, ← er_sum_list hP36 hnd, ← er_sum_add, er_sum_congr (n := 36) (f := fun p => er_ic (p ∈ P) * er_sp S p + er_ic (p ∈ P) * er_fp S p) (g := fun p => er_ic (p ∈ P) * (er_sp S p + er_fp S p)) (fun p _ => (Int.mul_add _ _ _).symm)]
  have nn : ∀ S : Int → Prop, 0 ≤ er_sum 36 (fun p => er_ic (p ∈ P) * er_sp S p) ∧ 0 ≤ er_sum 36 (fun p => er_ic (p ∈ P) * er_fp S p) ∧ er_sum 36 (fun p => er_ic (p ∈ P) * er_fp S p) ≤ er_sum 36 (fun p => er_ic (kd (p : Int) = 1) * er_fp S p) ∧ 0 ≤ er_cut S (er_tiles R C tl 0) ∧ 0 ≤ er_cut S (er_tiles R C 0 1) ∧ 0 ≤ er_cut S (er_chans R C ch op) := by
    intro S
    refine ⟨er_sum_nonneg (fun p _ => Int.mul_nonneg (er_ic_nn _) (er_sp_nn S p)), er_sum_nonneg (fun p _ => Int.mul_nonneg (er_ic_nn _) (er_fp_nn S p)), er_sum_le (fun p _ => ?_), er_tiles_nn h.2.2.2.1 (by decide), er_tiles_nn (by decide) (by decide), er_chans_nn h.1 h.2.1 h.2.2.1 h.2.2.2.2.2.2⟩
    refine Int.mul_le_mul_of_nonneg_right ?_ (er_fp_nn S p)
    by_cases hp : p ∈ P
    · rw [er_ic_t hp, er_ic_t (hP p hp).2]
      exact Int.le_refl _
    · rw [er_ic_f hp]
      exact er_ic_nn _
  refine er_same h1 h2 ?_ ?_
  · obtain ⟨p1, p2⟩ := parts (er_near (er_LC R C ch tl kd op w1 sup) r1)
    obtain ⟨n1, n2, n3, n4, n5, n6⟩ := nn (er_near (er_LC R C ch tl kd op w1 sup) r1)
    have e1 := er_max_cut h1
    rw [p1] at e1 ⊢
    rw [p2]
    rcases hw with ⟨rfl, rfl⟩ | ⟨rfl, rfl⟩ <;> omega
  · obtain ⟨p1, p2⟩ := parts (er_near (er_LM R C ch tl op w2 P) r2)
    obtain ⟨n1, n2, n3, n4, n5, n6⟩ := nn (er_near (er_LM R C ch tl op w2 P) r2)
    have e2 := er_max_cut h2
    have hout : ∀ p : Nat, p < 36 → p ∉ P → ¬ er_near (er_LM R C ch tl op w2 P) r2 (2 + (p : Int)) := by
      intro p hp hn hnear
      have := hnear (fun v => ∀ q : Nat, q < 36 → v = 2 + (q : Int) → q ∈ P) (fun q _ hq => by omega) (fun i hi => by
        have hm := er_LM_mem h.1 h.2.1 (er_g_mem hi)
        have key : (∀ q : Nat, q < 36 → (er_g (er_LM R C ch tl op w2 P) i).1 = 2 + (q : Int) → q ∈ P) ∧ (∀ q : Nat, q < 36 → (er_g (er_LM R C ch tl op w2 P) i).2.1 = 2 + (q : Int) → q ∈ P) := by
          rcases hm with hm | ⟨p', hp', hm⟩
          · exact ⟨fun q hq e => by omega, fun q hq e => by omega⟩
          · exact ⟨fun q hq e => by rw [show q = p' by omega]; exact hp', fun q hq e => by rw [show q = p' by omega]; exact hp'⟩
        exact ⟨fun _ _ => key.2, fun _ _ => key.1⟩) p hp rfl
      exact hn this
    have e3 : er_sum 36 (fun p => er_ic (kd (p : Int) = 1) * er_fp (er_near (er_LM R C ch tl op w2 P) r2) p) = er_sum 36 (fun p => er_ic (p ∈ P) * er_fp (er_near (er_LM R C ch tl op w2 P) r2) p) := by
      refine er_sum_congr (fun p hp => ?_)
      by_cases hm : p ∈ P
      · rw [er_ic_t hm, er_ic_t (hP p hm).2]
      · rw [er_fp_out (hout p hp hm), Int.mul_zero, Int.mul_zero]
    rw [p2] at e2 ⊢
    rw [p1, e3]
    rcases hw with ⟨rfl, rfl⟩ | ⟨rfl, rfl⟩ <;> omega
/-- nothing flows: a flow -/
theorem er_Fr_FO {L : List er_Ed} {rm : Int → Int} (h : er_Fr L rm) (hb : er_Bd L) : er_FO L rm ∧ ∀ v, er_exc L rm v = 0 := by
  have h2 : ∀ v, er_exc L rm v = 0 := fun v => er_sum_zero (fun i hi => by rw [(h i hi).2]; omega)
  refine ⟨⟨fun i hi => ?_, fun v _ _ => h2 v⟩, h2⟩
  obtain ⟨a, b⟩ := h i hi
  obtain ⟨c1, c2, c3, c4, c5, c6⟩ := hb i hi
  rw [a, b]
  exact ⟨c5, Int.le_refl _, by omega, c1, c2, c3, c4⟩
/-- lists with the same ends -/
def er_ends (L L' : List er_Ed) : Prop := L.length = L'.length ∧ ∀ i, i < L.length → (er_g L i).1 = (er_g L' i).1 ∧ (er_g L i).2.1 = (er_g L' i).2.1
theorem er_ends_e {L L' : List er_Ed} (h : er_ends L L') {e : Int} (h0 : 0 ≤ e) (h1 : e < 2 * (L.length : Int)) : er_fr L e = er_fr L' e ∧ er_to L e = er_to L' e := by
  have := h.2 (e / 2).toNat (by omega)
  unfold er_fr er_to
  rw [this.1, this.2]
  exact ⟨rfl, rfl⟩
theorem er_last_ends {L L' : List er_Ed} (h : er_ends L L') {nil v e x : Int} (he : e ≤ 2 * (L.length : Int)) (hl : er_last L nil v e x) : er_last L' nil v e x := by
  rcases hl with ⟨h1, h2⟩ | ⟨h1, h2, h3, h4⟩
  · exact Or.inl ⟨h1, fun k k0 k1 => by rw [← (er_ends_e h k0 (by omega)).1]; exact h2 k k0 k1⟩
  · exact Or.inr ⟨h1, h2, by rw [← (er_ends_e h h1 (by omega)).1]; exact h3, fun k k0 k1 => by rw [← (er_ends_e h (by omega) (by omega)).1]; exact h4 k k0 k1⟩
theorem er_Adj_ends {L L' : List er_Ed} (h : er_ends L L') {fi nx : Int → Int} {nil : Int} (ha : er_Adj L fi nx nil) : er_Adj L' fi nx nil := by
  refine ⟨fun v v0 v1 => ?_, fun e e0 e1 => ?_⟩
  · rw [← h.1]
    exact er_last_ends h (Int.le_refl _) (ha.1 v v0 v1)
  · rw [← h.1] at e1
    rw [← (er_ends_e h e0 e1).1]
    exact er_last_ends h (by omega) (ha.2 e e0 e1)
theorem er_exc_ends {L L' : List er_Ed} (h : er_ends L L') {rm : Int → Int} (v : Int) : er_exc L rm v = er_exc L' rm v := by
  unfold er_exc
  rw [← h.1]
  exact er_sum_congr (fun i hi => by rw [(h.2 i hi).1, (h.2 i hi).2])
theorem er_CN_ends {n : Nat} {m : er_M} {L L' : List er_Ed} (h : er_ends L L') (hb : er_Bd L') (hc : er_CN n m L) : er_CN n m L' := by
  obtain ⟨c1, c2, c3, c4, c5⟩ := hc
  exact ⟨by rw [← h.1]; exact c1, by rw [← h.1]; exact c2, hb, fun e e0 e1 => by rw [← h.1] at e1; rw [c4 e e0 e1]; exact (er_ends_e h e0 e1).2, er_Adj_ends h c5⟩
theorem er_flat1_g {f : Nat → er_Ed} {B : List er_Ed} : ∀ (n i : Nat), i < n → er_g (er_flat n (fun p => [f p]) ++ B) i = f i ∧ (er_flat n (fun p => [f p])).length = n := by
  intro n
  induction n generalizing B with
  | zero => intro i hi; omega
  | succ n ih =>
    intro i hi
    simp only [er_flat]
    have hlen : (er_flat n (fun p => [f p])).length = n := by
      cases n with
      | zero => rfl
      | succ k => exact (ih (B := []) 0 (by omega)).2
    refine ⟨?_, by simp [hlen]⟩
    rw [List.append_assoc]
    by_cases h : i < n
    · exact (ih i h).1
    · have := er_g_mid (A := er_flat n (fun p => [f p])) (t := f n) (B := B)
      rw [hlen] at this
      rw [show i = n by omega]
      exact this
theorem er_srcs_g {sup : Nat → Int} {B : List er_Ed} {i : Nat} (h : i < 36) : er_g (er_srcs sup ++ B) i = (0, 2 + (i : Int), sup i) := (er_flat1_g (f := fun p => (0, 2 + (p : Int), sup p)) 36 i h).1
theorem er_srcs_g2 {sup sup' : Nat → Int} {B : List er_Ed} {i : Nat} (h : 36 ≤ i) : er_g (er_srcs sup ++ B) i = er_g (er_srcs sup' ++ B) i := by
  unfold er_g
  rw [List.getD_eq_getElem?_getD, List.getD_eq_getElem?_getD, List.getElem?_append_right (by rw [er_srcs_len]; exact h), List.getElem?_append_right (by rw [er_srcs_len]; exact h), er_srcs_len, er_srcs_len]
theorem er_srcs_ends {sup sup' : Nat → Int} {B : List er_Ed} : er_ends (er_srcs sup ++ B) (er_srcs sup' ++ B) := by
  refine ⟨by rw [List.length_append, List.length_append, er_srcs_len, er_srcs_len], fun i _ => ?_⟩
  by_cases hi : i < 36
  · rw [er_srcs_g hi, er_srcs_g hi]
    exact ⟨rfl, rfl⟩
  · rw [er_srcs_g2 (sup' := sup') (by omega)]
    exact ⟨rfl, rfl⟩
theorem er_srcs_Bd {sup sup' : Nat → Int} {B : List er_Ed} (hb : er_Bd (er_srcs sup ++ B)) (h : ∀ p, p < 36 → 0 ≤ sup' p ∧ sup' p ≤ 1000000) : er_Bd (er_srcs sup' ++ B) := by
  intro i hi
  by_cases h36 : i < 36
  · rw [er_srcs_g h36]
    have := h i h36
    exact ⟨Int.le_refl 0, (by decide : (0 : Int) < 136), by simp only; omega, by simp only; omega, this.1, this.2⟩
  · rw [← er_srcs_g2 (sup := sup) (by omega)]
    refine hb i ?_
    rw [List.length_append, er_srcs_len] at hi ⊢
    exact hi
/-- a pin gets its supply where nothing flows to it -/
theorem er_FO_supply {sup sup' : Nat → Int} {B : List er_Ed} {rm rm' : Int → Int} {p : Nat} {w : Int} (h : er_FO (er_srcs sup ++ B) rm) (hp : p < 36) (hw : 0 ≤ w) (hs : sup' p = w) (ho : ∀ q, q < 36 → q ≠ p → sup' q = sup q) (hz : sup p = 0) (hr : rm' (2 * (p : Int)) = w) (hr' : ∀ k, k ≠ 2 * (p : Int) → rm' k = rm k) : er_FO (er_srcs sup' ++ B) rm' ∧ ∀ v, er_exc (er_srcs sup' ++ B) rm' v = er_exc (er_srcs sup ++ B) rm v := by
  have hlen : (er_srcs sup' ++ B).length = (er_srcs sup ++ B).length := (er_srcs_ends (sup := sup')).1
  have hx : ∀ v, er_exc (er_srcs sup' ++ B) rm' v = er_exc (er_srcs sup ++ B) rm v := by
    intro v
    rw [er_exc_ends (er_srcs_ends (sup := sup') (sup' := sup))]
    exact er_exc_same (fun i _ => hr' _ (by omega)) v
  refine ⟨⟨fun i hi => ?_, fun v v0 v1 => by rw [hx]; exact h.2 v v0 v1⟩, hx⟩
  rw [hlen] at hi
  have hi0 := h.1 i hi
  by_cases hip : i = p
  · subst hip
    rw [er_srcs_g hp] at hi0 ⊢
    simp only at hi0 ⊢
    rw [hr, hr' _ (by omega), hs]
    omega
  · rw [hr' _ (by omega), hr' _ (by omega)]
    by_cases h36 : i < 36
    · rw [er_srcs_g h36] at hi0 ⊢
      simp only at hi0 ⊢
      rw [ho i h36 hip]
      exact hi0
    · rw [← er_srcs_g2 (sup := sup) (by omega)]
      exact hi0
