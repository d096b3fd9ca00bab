/-! the reference's layering: the order -/
/-- the reference's board holds b -/
def er_RB (m : er_M) (b : er_Bo) : Prop := er_SM m (er_bR b) (er_bC b) (er_bh b) (er_bt b) ∧ ∀ j : Int, 0 ≤ j → j < 36 → m 84 (4 + j) = er_bk b j ∧ m 84 (40 + j) = er_bp b j + 1 ∧ m 84 (76 + j) = er_bs b j
theorem er_RB.kp {F : Nat → Int → Prop} {m m' : er_M} {b : er_Bo} (h : er_RB m b) (hk : er_kp F m m') (h1 : ∀ k, ¬ F 84 k) : er_RB m' b := by
  have c1 : m' 84 = m 84 := funext fun q => hk _ _ (h1 q)
  unfold er_RB er_SM at h ⊢
  rw [c1]
  exact h
theorem er_srt_app {R C s : Nat} (A B : List Nat) : er_srt R C s (A ++ B) = true ↔ er_srt R C s A = true ∧ er_srt R C s B = true ∧ ∀ a ∈ A, ∀ c ∈ B, er_rank R C s a < er_rank R C s c := by
  induction A with
  | nil => simp [er_srt]
  | cons p A ih =>
    simp only [List.cons_append, er_srt, Bool.and_eq_true, List.all_eq_true, decide_eq_true_eq, ih, List.mem_append, List.mem_cons]
    constructor
    · rintro ⟨h1, h2, h3, h4⟩
      refine ⟨⟨fun q hq => h1 q (Or.inl hq), h2⟩, h3, fun a ha c hc => ?_⟩
      rcases ha with rfl | ha
      · exact h1 c (Or.inr hc)
      · exact h4 a ha c hc
    · rintro ⟨⟨h1, h2⟩, h3, h4⟩
      exact ⟨fun q hq => hq.elim (h1 q) (fun z => h4 p (Or.inl rfl) q z), h2, h3, fun a ha c hc => h4 a (Or.inr ha) c hc⟩
theorem er_srt_uniq {R C s : Nat} : ∀ l1 l2 : List Nat, er_srt R C s l1 = true → er_srt R C s l2 = true → (∀ q, q ∈ l1 ↔ q ∈ l2) → l1 = l2 := by
  intro l1
  induction l1 with
  | nil =>
    intro l2 _ _ h
    cases l2 with
    | nil => rfl
    | cons q t => exact absurd ((h q).mpr List.mem_cons_self) (by simp)
  | cons p t ih =>
    intro l2 h1 h2 h
    cases l2 with
    | nil => exact absurd ((h p).mp List.mem_cons_self) (by simp)
    | cons q u =>
      simp only [er_srt, Bool.and_eq_true, List.all_eq_true, decide_eq_true_eq] at h1 h2
      have hpq : p = q := by
        rcases List.mem_cons.mp ((h p).mp List.mem_cons_self) with z | z
        · exact z
        · rcases List.mem_cons.mp ((h q).mpr List.mem_cons_self) with y | y
          · exact y.symm
          · have a1 := h1.1 q y
            have a2 := h2.1 p z
            omega
      subst hpq
      refine congrArg (List.cons p) (ih u h1.2 h2.2 (fun x => ⟨fun z => ?_, fun z => ?_⟩))
      · rcases List.mem_cons.mp ((h x).mp (List.mem_cons_of_mem _ z)) with y | y
        · have := h1.1 x z
          rw [y] at this
          omega
        · exact y
      · rcases List.mem_cons.mp ((h x).mpr (List.mem_cons_of_mem _ z)) with y | y
        · have := h2.1 x z
          rw [y] at this
          omega
        · exact y
theorem er_srt_filter {R C s : Nat} (f : Nat → Bool) (l : List Nat) (h : er_srt R C s l = true) : er_srt R C s (l.filter f) = true := by
  induction l with
  | nil => rfl
  | cons p t ih =>
    simp only [er_srt, Bool.and_eq_true, List.all_eq_true, decide_eq_true_eq] at h
    rw [List.filter_cons]
    split
    · simp only [er_srt, Bool.and_eq_true, List.all_eq_true, decide_eq_true_eq]
      exact ⟨fun q hq => h.1 q (List.mem_filter.mp hq).1, ih h.2⟩
    · exact ih h.2
theorem er_rank_inj {R C s p q : Nat} (hp : p < 36) (hq : q < 36) (h : er_rank R C s p = er_rank R C s q) : p = q := by
  unfold er_rank at h
  split at h
  · omega
  · split at h
    · omega
    · split at h <;> omega
/-- the places of signals in the order of a strategy -/
def er_msq (b : er_Bo) (s : Nat) : List Nat := (er_seq (er_bR b) (er_bC b) s).filter (fun p => decide (er_bk b (p : Int) = 1))
theorem er_msq_of {b : er_Bo} {s : Nat} {l : List Nat} (hv : er_BV b) (hs : s < 4) (h1 : er_srt (er_bR b) (er_bC b) s l = true) (h2 : ∀ q, q ∈ l ↔ q < 36 ∧ er_bk b (q : Int) = 1) : l = er_msq b s := by
  have hR := hv.2.1
  have hC := hv.2.2.2.1
  obtain ⟨sq1, sq2, sq3, sq4, sq5⟩ := er_seq_all (er_bR b) (by omega) (er_bC b) (by omega) s hs
  refine er_srt_uniq _ _ h1 (er_srt_filter _ _ sq4) (fun q => ?_)
  rw [h2 q]
  unfold er_msq
  rw [List.mem_filter, decide_eq_true_eq]
  refine ⟨fun z => ⟨?_, z.2⟩, fun z => ⟨(sq2 q z.1).2.2, z.2⟩⟩
  have ho := hv.2.2.2.2.2.2.2.2.2.1 (q : Int) (by omega) (by omega)
  have hon : (q : Int) / 6 < er_bR b ∧ (q : Int) % 6 < er_bC b := Classical.byContradiction fun w => by
    have := ho w
    omega
  exact sq3 q z.1 (by omega) (by omega)
theorem er_msq_mem {b : er_Bo} {s q : Nat} (hv : er_BV b) (hs : s < 4) : q ∈ er_msq b s ↔ q < 36 ∧ er_bk b (q : Int) = 1 := by
  have hR := hv.2.1
  have hC := hv.2.2.2.1
  obtain ⟨sq1, sq2, sq3, sq4, sq5⟩ := er_seq_all (er_bR b) (by omega) (er_bC b) (by omega) s hs
  unfold er_msq
  rw [List.mem_filter, decide_eq_true_eq]
  refine ⟨fun z => ⟨(sq2 q z.1).2.2, z.2⟩, fun z => ⟨?_, z.2⟩⟩
  have ho := hv.2.2.2.2.2.2.2.2.2.1 (q : Int) (by omega) (by omega)
  have hon : (q : Int) / 6 < er_bR b ∧ (q : Int) % 6 < er_bC b := Classical.byContradiction fun w => by
    have := ho w
    omega
  exact sq3 q z.1 (by omega) (by omega)
theorem er_msq_nodup {b : er_Bo} {s : Nat} (hv : er_BV b) (hs : s < 4) : (er_msq b s).Nodup := by
  have hR := hv.2.1
  have hC := hv.2.2.2.1
  obtain ⟨sq1, sq2, sq3, sq4, sq5⟩ := er_seq_all (er_bR b) (by omega) (er_bC b) (by omega) s hs
  exact er_srt_nodup (R := er_bR b) (C := er_bC b) (s := s) _ (er_srt_filter _ _ sq4)
theorem er_msq_len {b : er_Bo} {s : Nat} (hv : er_BV b) (hs : s < 4) : ((er_msq b s).length : Int) = er_sig b := by
  rw [← er_sum_card (fun p hp => ((er_msq_mem hv hs).mp hp).1) (er_msq_nodup hv hs)]
  unfold er_sig
  refine er_sum_congr (fun p hp => er_ic_iff ?_)
  rw [er_msq_mem hv hs]
  exact ⟨fun z => z.2, fun z => ⟨hp, z⟩⟩
/-- a list in the order's array -/
def er_oh (m : er_M) (o : Nat) (l : List Nat) : Prop := ∀ (i : Nat) (h : i < l.length), m 98 ((o + i : Nat) : Int) = (l[i] : Int)
theorem er_oh_app {m : er_M} {o : Nat} {A B : List Nat} : er_oh m o (A ++ B) ↔ er_oh m o A ∧ er_oh m (o + A.length) B := by
  constructor
  · intro h
    refine ⟨fun i hi => ?_, fun i hi => ?_⟩
    · have := h i (by rw [List.length_append]; omega)
      rw [List.getElem_append_left hi] at this
      exact this
    · have := h (A.length + i) (by rw [List.length_append]; omega)
      rw [List.getElem_append_right (by omega)] at this
      rw [show o + A.length + i = o + (A.length + i) by omega, this]
      simp
  · rintro ⟨h1, h2⟩ i hi
    rw [List.length_append] at hi
    by_cases hA : i < A.length
    · rw [List.getElem_append_left hA]
      exact h1 i hA
    · rw [List.getElem_append_right (by omega)]
      have := h2 (i - A.length) (by omega)
      rw [show o + A.length + (i - A.length) = o + i by omega] at this
      exact this
theorem er_oh_one {m : er_M} {o p : Nat} : er_oh m o [p] ↔ m 98 (o : Int) = (p : Int) := by
  constructor
  · intro h
    exact h 0 (by simp)
  · intro h i hi
    simp at hi
    subst hi
    exact h
theorem er_oh_st {m : er_M} {o : Nat} {l : List Nat} {k v : Int} (h : er_oh m o l) (hk : k < o ∨ (o + l.length : Int) ≤ k) : er_oh (er_st m 98 k v) o l := fun i hi => by
  rw [er_st_k (by omega)]
  exact h i hi
theorem er_oh_eq {m m' : er_M} {o : Nat} {l : List Nat} (h : er_oh m o l) (he : ∀ k, m' 98 k = m 98 k) : er_oh m' o l := fun i hi => by rw [he]; exact h i hi
def er_OV : Nat → Int → Prop := fun c k => c = 98 ∨ (c = 83 ∧ k = 20)
section ERO
variable {K : er_K} {m : er_M}
theorem sp_M_ring {R C : Nat} {ch tl : Int} {p : Nat} {Q : Int → er_M → Prop} (h : er_SM m R C ch tl) (hp : p < 36) (hQ : Q (er_ring R C ((p : Int) / 6) ((p : Int) % 6)) m) : er_SI K mi_M_ring [.inr 83, .inl (p : Int)] m Q := by
  obtain ⟨b1, b2, b3, b4, b5, b6, b7, b8, b9⟩ := h
  have e1 : (0 : Int) ≤ (p : Int) / 6 ∧ (p : Int) / 6 < 6 := by omega
  have e2 : (0 : Int) ≤ (p : Int) % 6 ∧ (p : Int) % 6 < 6 := by omega
  have key : ∀ x : Int, x = er_ring R C ((p : Int) / 6) ((p : Int) % 6) → Q x m := fun x hx => by rw [hx]; exact hQ
  unfold er_ring at key
  refine vc_M_ring ?_
  rw [b1, b2]
  generalize (p : Int) / 6 = r at *
  generalize (p : Int) % 6 = c at *
  refine ⟨by omega, by omega, ⟨by omega, by omega⟩, ⟨by omega, by omega⟩, fun h1 => ⟨⟨by omega, by omega⟩, fun h2 => ⟨⟨by omega, by omega⟩, fun h3 => key _ (by omega), fun h3 => key _ (by omega)⟩, fun h2 => ⟨⟨by omega, by omega⟩, fun h3 => key _ (by omega), fun h3 => key _ (by omega)⟩⟩, fun h1 => ⟨⟨by omega, by omega⟩, fun h2 => ⟨⟨by omega, by omega⟩, fun h3 => key _ (by omega), fun h3 => key _ (by omega)⟩, fun h2 => ⟨⟨by omega, by omega⟩, fun h3 => key _ (by omega), fun h3 => key _ (by omega)⟩⟩⟩
theorem er_rank_bd {R C s p : Nat} (hR : R ≤ 6) (hC : C ≤ 6) (hp : p < 36) : -1000 ≤ er_rank R C s p ∧ er_rank R C s p ≤ 1000 := by
  unfold er_rank er_ring
  split
  · omega
  · split
    · omega
    · split <;> omega
theorem sp_M_rank {R C s : Nat} {ch tl : Int} {p : Nat} {Q : Int → er_M → Prop} (h : er_SM m R C ch tl) (hs : s < 4) (hp : p < 36) (hQ : Q (er_rank R C s p) m) : er_SI K mi_M_rank [.inr 83, .inl (s : Int), .inl (p : Int)] m Q := by
  unfold er_rank at hQ
  refine vc_M_rank ⟨⟨by omega, by omega⟩, fun h0 => ?_, fun h1 => ?_, fun h2 => ?_, fun h3 => ?_⟩
  · rw [if_pos (by omega)] at hQ; exact hQ
  · rw [if_neg (by omega), if_pos (by omega)] at hQ; exact ⟨by omega, by omega, hQ⟩
  · rw [if_neg (by omega), if_neg (by omega), if_pos (by omega)] at hQ
    exact sp_M_ring h hp hQ
  · rw [if_neg (by omega), if_neg (by omega), if_neg (by omega)] at hQ
    exact sp_M_ring h hp hQ
theorem sp_M_sort {b : er_Bo} {s : Nat} {Q : er_M → Prop} (hv : er_BV b) (hb : er_RB m b) (hs : s < 4) (hQ : ∀ m', m' 83 20 = ((er_msq b s).length : Int) → er_oh m' 0 (er_msq b s) → er_kp er_OV m m' → Q m') : er_SV K mi_M_sort [.inr 83, .inl (s : Int)] m Q := by
  have nxt : ∀ (x : Nat) (l : List Nat), x < 36 → er_srt (er_bR b) (er_bC b) s l = true → (∀ q, q ∈ l ↔ q < x ∧ er_bk b (q : Int) = 1) → er_bk b (x : Int) = 1 → (∀ (l' : List Nat) (m4 : er_M), er_srt (er_bR b) (er_bC b) s l' = true → (∀ q, q ∈ l' ↔ q < x + 1 ∧ er_bk b (q : Int) = 1) → m4 83 20 = (l'.length : Int) → er_oh m4 0 l' → er_kp er_OV m m4 → wp_M_sort_7 K (s : Int) ((x : Int) + 1) m4 Q) → ∀ (k : Nat) (A B : List Nat) (m1 : er_M), A.length = k → A ++ B = l → l.length < 36 → m1 83 20 = (l.length : Int) → er_oh m1 0 A → er_oh m1 (k + 1) B → (∀ q ∈ B, er_rank (er_bR b) (er_bC b) s x < er_rank (er_bR b) (er_bC b) s q) → er_kp er_OV m m1 → wp_M_sort_30 K (s : Int) (x : Int) (k : Int) m1 Q := by
    intro x l hx hsl hml hkx hnext
    have hl36 : ∀ q ∈ l, q < 36 := fun q hq => by have := ((hml q).mp hq).1; omega
    -- it is put there
    have put : ∀ (k : Nat) (A B : List Nat) (m1 : er_M), A.length = k → A ++ B = l → l.length < 36 → m1 83 20 = (l.length : Int) → er_oh m1 0 A → er_oh m1 (k + 1) B → (∀ q ∈ B, er_rank (er_bR b) (er_bC b) s x < er_rank (er_bR b) (er_bC b) s q) → (∀ q ∈ A, er_rank (er_bR b) (er_bC b) s q < er_rank (er_bR b) (er_bC b) s x) → er_kp er_OV m m1 → wp_M_sort_76 K (s : Int) (x : Int) (k : Int) m1 Q := by
      intro k A B m1 hk hAB hl h20 hA hB hgt hlt hkp
      have hll : A.length + B.length = l.length := by rw [← hAB, List.length_append]
      have hsA := (er_srt_app A B).mp (by rw [hAB]; exact hsl)
      refine vc_M_sort_76 ⟨by omega, by omega, fun m3 e3 m4 e4 => ?_⟩
      have g98 : ∀ j, m4 98 j = m3 98 j := fun j => by rw [e4, er_st_c (by decide)]
      refine hnext (A ++ ([x] ++ B)) m4 ((er_srt_app _ _).mpr ⟨hsA.1, (er_srt_app _ _).mpr ⟨rfl, hsA.2.1, fun a ha c hc => ?_⟩, fun a ha c hc => ?_⟩) (fun q => ?_) ?_ (er_oh_app.mpr ⟨?_, er_oh_app.mpr ⟨?_, ?_⟩⟩) (hkp.tr (by rw [e4, e3]; exact (er_kp.st (Or.inl rfl)).tr (er_kp.st (Or.inr ⟨rfl, rfl⟩))))
      · rw [List.mem_singleton.mp ha]; exact hgt c hc
      · rcases List.mem_append.mp hc with z | z
        · rw [List.mem_singleton.mp z]; exact hlt a ha
        · exact hsA.2.2 a ha c z
      · have hq := hml q
        rw [← hAB, List.mem_append] at hq
        rw [List.mem_append, List.mem_append, List.mem_singleton]
        constructor
        · rintro (z | z | z)
          · have := hq.mp (Or.inl z); exact ⟨by omega, this.2⟩
          · rw [z]; exact ⟨by omega, hkx⟩
          · have := hq.mp (Or.inr z); exact ⟨by omega, this.2⟩
        · rintro ⟨z1, z2⟩
          by_cases hqx : q = x
          · exact Or.inr (Or.inl hqx)
          · rcases hq.mpr ⟨by omega, z2⟩ with z | z
            · exact Or.inl z
            · exact Or.inr (Or.inr z)
      · rw [e4, er_st_s, e3, er_st_c (by decide), h20, List.length_append, List.length_append, List.length_singleton]
        omega
      · refine er_oh_eq (m := m3) ?_ g98
        rw [e3]
        exact er_oh_st hA (by omega)
      · rw [er_oh_one, g98, e3, show ((0 + A.length : Nat) : Int) = (k : Int) by omega, er_st_s]
      · refine er_oh_eq (m := m3) ?_ g98
        rw [e3, show 0 + A.length + [x].length = k + 1 by simp [hk]]
        exact er_oh_st hB (by omega)
    intro k
    induction k with
    | zero =>
      intro A B m1 hk hAB hl h20 hA hB hgt hkp
      have hA0 : A = [] := List.eq_nil_of_length_eq_zero hk
      exact vc_M_sort_30 ⟨⟨by omega, by omega⟩, fun _ => put 0 A B m1 hk hAB hl h20 hA hB hgt (fun q hq => by rw [hA0] at hq; simp at hq) hkp, fun hlt => by omega⟩
    | succ k ih =>
      intro A B m1 hk hAB hl h20 hA hB hgt hkp
      have hll : A.length + B.length = l.length := by rw [← hAB, List.length_append]
      have hne : A ≠ [] := fun z => by rw [z] at hk; simp at hk
      have hsplit := List.dropLast_concat_getLast hne
      generalize A.getLast hne = a at hsplit
      generalize A.dropLast = A' at hsplit
      have hA'l : A'.length = k := by
        have := congrArg List.length hsplit
        rw [List.length_append, List.length_singleton] at this
        omega
      subst hsplit
      have ha36 : a < 36 := hl36 a (by rw [← hAB]; simp)
      have hA2 := er_oh_app.mp hA
      have hak : m1 98 (k : Int) = (a : Int) := by
        have := er_oh_one.mp hA2.2
        rwa [show ((0 + A'.length : Nat) : Int) = (k : Int) by omega] at this
      have hsA := (er_srt_app _ B).mp (by rw [hAB]; exact hsl)
      have hsA' := (er_srt_app A' [a]).mp hsA.1
      have hb1 := hb.kp hkp (fun k z => by unfold er_OV at z; omega)
      have hxm : x ∉ l := fun z => by have := ((hml x).mp z).1; omega
      have r1 := er_rank_bd (R := er_bR b) (C := er_bC b) (s := s) hv.2.1 hv.2.2.2.1 ha36
      have r2 := er_rank_bd (R := er_bR b) (C := er_bC b) (s := s) hv.2.1 hv.2.2.2.1 hx
      refine vc_M_sort_30 ⟨⟨by omega, by omega⟩, fun hle => by omega, fun _ => ⟨by omega, by omega, ?_⟩⟩
      rw [show (((k + 1 : Nat) : Int) - 1) = (k : Int) by omega, hak]
      refine sp_M_rank hb1.1 hs ha36 (sp_M_rank hb1.1 hs hx ⟨⟨by omega, by omega⟩, ⟨by omega, by omega⟩, fun hle => ?_, fun hgt2 => ⟨by omega, by omega, fun m14 e14 => ?_⟩⟩)
      · refine put (k + 1) _ B m1 hk hAB hl h20 hA hB hgt (fun q hq => ?_) hkp
        have hax : er_rank (er_bR b) (er_bC b) s a < er_rank (er_bR b) (er_bC b) s x := by
          have : er_rank (er_bR b) (er_bC b) s a ≠ er_rank (er_bR b) (er_bC b) s x := fun z => hxm (by rw [← er_rank_inj ha36 hx z, ← hAB]; simp)
          omega
        rcases List.mem_append.mp hq with z | z
        · have := hsA'.2.2 q z a (by simp)
          omega
        · rw [List.mem_singleton.mp z]; exact hax
      · have e1 : ((k + 1 : Nat) : Int) + -1 = (k : Int) := by omega
        rw [e1]
        refine ih A' (a :: B) m14 hA'l (by rw [← hAB, List.append_assoc]; rfl) hl (by rw [e14, er_st_c (by decide)]; exact h20) (by rw [e14]; exact er_oh_st hA2.1 (by omega)) ?_ (fun q hq => ?_) (hkp.tr (by rw [e14]; exact er_kp.st (Or.inl rfl)))
        · rw [show a :: B = [a] ++ B from rfl, e14]
          refine er_oh_app.mpr ⟨er_oh_one.mpr ?_, ?_⟩
          · rw [er_st_s, hak]
          · exact er_oh_st hB (by rw [List.length_singleton]; omega)
        · rcases List.mem_cons.mp hq with z | z
          · rw [z]; exact hgt2
          · exact hgt q z
  have loop : ∀ (d x : Nat) (l : List Nat) (m1 : er_M), x + d = 36 → er_srt (er_bR b) (er_bC b) s l = true → (∀ q, q ∈ l ↔ q < x ∧ er_bk b (q : Int) = 1) → m1 83 20 = (l.length : Int) → er_oh m1 0 l → er_kp er_OV m m1 → wp_M_sort_7 K (s : Int) (x : Int) m1 Q := by
    intro d
    induction d with
    | zero =>
      intro x l m1 hx hsl hml h20 hoh hkp
      refine vc_M_sort_7 ⟨⟨by omega, by omega⟩, fun _ => ?_, fun hlt => by omega⟩
      rw [show x = 36 by omega] at hml
      have e := er_msq_of hv hs hsl hml
      subst e
      exact hQ m1 h20 hoh hkp
    | succ d ih =>
      intro x l m1 hx hsl hml h20 hoh hkp
      have hb1 := hb.kp hkp (fun k z => by unfold er_OV at z; omega)
      have hk := (hb1.2 x (by omega) (by omega)).1
      have hkd := hv.2.2.2.2.2.2.2.2.1 x (by omega) (by omega)
      have hl36 : ∀ q ∈ l, q < 36 := fun q hq => by have := ((hml q).mp hq).1; omega
      refine vc_M_sort_7 ⟨⟨by omega, by omega⟩, fun hle => by omega, fun _ => ⟨by omega, by omega, ⟨by omega, by omega⟩, fun hne => ?_, fun he => ?_⟩⟩
      · refine ih (x + 1) l m1 (by omega) hsl (fun q => ?_) h20 hoh hkp
        rw [hml q]
        refine ⟨fun z => ⟨by omega, z.2⟩, fun z => ⟨?_, z.2⟩⟩
        by_cases hqx : q = x
        · rw [hqx] at z; omega
        · omega
      · rw [h20]
        have hl35 : l.length < 36 := by
          have h1 := er_card36 (P := l ++ [x]) (fun q hq => by
            rcases List.mem_append.mp hq with z | z
            · exact hl36 q z
            · rw [List.mem_singleton.mp z]; omega) (List.nodup_append.mpr ⟨er_srt_nodup l hsl, by simp, fun a ha c hc hac => by
              rw [List.mem_singleton] at hc
              have := ((hml a).mp ha).1
              omega⟩)
          rw [List.length_append, List.length_singleton] at h1
          omega
        exact nxt x l (by omega) hsl hml (by omega) (fun l' m4 a1 a2 a3 a4 a5 => ih (x + 1) l' m4 (by omega) a1 a2 a3 a4 a5) l.length l [] m1 rfl (List.append_nil l) hl35 h20 hoh (fun i hi => by simp at hi) (fun q hq => by simp at hq) hkp
  refine vc_M_sort (fun m1 e1 => ?_)
  exact loop 36 0 [] m1 (by decide) rfl (fun q => ⟨fun z => by simp at z, fun z => by omega⟩) (by rw [e1, er_st_s]; rfl) (fun i hi => by simp at hi) (by rw [e1]; exact er_kp.st (Or.inr ⟨rfl, rfl⟩))
end ERO
