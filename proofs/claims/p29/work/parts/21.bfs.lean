/-! chains of edges, the search, the way found: no machine here -/
theorem er_sum_ones (n : Nat) : er_sum n (fun _ => 1) = n := by
  induction n with
  | zero => rfl
  | succ n ih => simp only [er_sum]; rw [ih]; omega
theorem er_px_px {e : Int} : er_px (er_px e) = e := by unfold er_px; omega
theorem er_px_ne {e : Int} : er_px e ≠ e := by unfold er_px; omega
theorem er_px_in {e : Int} {n : Nat} (h0 : 0 ≤ e) (h1 : e < 2 * (n : Int)) : 0 ≤ er_px e ∧ er_px e < 2 * (n : Int) := by unfold er_px; omega
theorem er_fr_px (L : List er_Ed) (e : Int) : er_fr L (er_px e) = er_to L e := by
  unfold er_fr er_to er_px
  rcases (by omega : e % 2 = 0 ∨ e % 2 = 1) with h | h
  · rw [if_neg (by omega), if_pos h, show (e + 1 - 2 * (e % 2)) / 2 = e / 2 by omega]
  · rw [if_pos (by omega), if_neg (by omega), show (e + 1 - 2 * (e % 2)) / 2 = e / 2 by omega]
theorem er_to_px (L : List er_Ed) (e : Int) : er_to L (er_px e) = er_fr L e := by
  rw [← er_fr_px, er_px_px]
/-- x is the last edge before e that starts at v, or nil where there is none -/
def er_last (L : List er_Ed) (nil v e x : Int) : Prop := (x = nil ∧ ∀ k : Int, 0 ≤ k → k < e → er_fr L k ≠ v) ∨ (0 ≤ x ∧ x < e ∧ er_fr L x = v ∧ ∀ k : Int, x < k → k < e → er_fr L k ≠ v)
def er_Adj (L : List er_Ed) (fi nx : Int → Int) (nil : Int) : Prop := (∀ v : Int, 0 ≤ v → v < 136 → er_last L nil v (2 * (L.length : Int)) (fi v)) ∧ ∀ e : Int, 0 ≤ e → e < 2 * (L.length : Int) → er_last L nil (er_fr L e) e (nx e)
/-- the ends are nodes, the capacities are small -/
def er_Bd (L : List er_Ed) : Prop := ∀ i : Nat, i < L.length → 0 ≤ (er_g L i).1 ∧ (er_g L i).1 < 136 ∧ 0 ≤ (er_g L i).2.1 ∧ (er_g L i).2.1 < 136 ∧ 0 ≤ (er_g L i).2.2 ∧ (er_g L i).2.2 ≤ 1000000
theorem er_fr_app {L : List er_Ed} {t : er_Ed} {e : Int} (h0 : 0 ≤ e) (h1 : e < 2 * (L.length : Int)) : er_fr (L ++ [t]) e = er_fr L e := by
  unfold er_fr
  rw [er_g_app1 (by omega)]
theorem er_to_app {L : List er_Ed} {t : er_Ed} {e : Int} (h0 : 0 ≤ e) (h1 : e < 2 * (L.length : Int)) : er_to (L ++ [t]) e = er_to L e := by
  unfold er_to
  rw [er_g_app1 (by omega)]
theorem er_fr_new {L : List er_Ed} {t : er_Ed} : er_fr (L ++ [t]) (2 * (L.length : Int)) = t.1 ∧ er_to (L ++ [t]) (2 * (L.length : Int)) = t.2.1 ∧ er_fr (L ++ [t]) (2 * (L.length : Int) + 1) = t.2.1 ∧ er_to (L ++ [t]) (2 * (L.length : Int) + 1) = t.1 := by
  unfold er_fr er_to
  have e1 : ((2 * (L.length : Int)) / 2).toNat = L.length := by omega
  have e2 : ((2 * (L.length : Int) + 1) / 2).toNat = L.length := by omega
  rw [if_pos (by omega), if_pos (by omega), if_neg (by omega), if_neg (by omega), e1, e2, er_g_app2]
  exact ⟨rfl, rfl, rfl, rfl⟩
theorem er_last_step {L : List er_Ed} {nil v e x : Int} (h : er_last L nil v e x) (hne : er_fr L e ≠ v) : er_last L nil v (e + 1) x := by
  rcases h with ⟨h1, h2⟩ | ⟨h1, h2, h3, h4⟩
  · refine Or.inl ⟨h1, fun k hk0 hk1 => ?_⟩
    by_cases hk : k = e
    · subst hk; exact hne
    · exact h2 k hk0 (by omega)
  · refine Or.inr ⟨h1, by omega, h3, fun k hk0 hk1 => ?_⟩
    by_cases hk : k = e
    · subst hk; exact hne
    · exact h4 k hk0 (by omega)
theorem er_last_app {L : List er_Ed} {t : er_Ed} {nil v e x : Int} (h : er_last L nil v e x) (he : e ≤ 2 * (L.length : Int)) : er_last (L ++ [t]) nil v e x := by
  rcases h with ⟨h1, h2⟩ | ⟨h1, h2, h3, h4⟩
  · exact Or.inl ⟨h1, fun k hk0 hk1 => by rw [er_fr_app hk0 (by omega)]; exact h2 k hk0 hk1⟩
  · exact Or.inr ⟨h1, h2, by rw [er_fr_app h1 (by omega)]; exact h3, fun k hk0 hk1 => by rw [er_fr_app (by omega) (by omega)]; exact h4 k hk0 hk1⟩
theorem er_last_now {L : List er_Ed} {nil e : Int} (h0 : 0 ≤ e) : er_last L nil (er_fr L e) (e + 1) e := Or.inr ⟨h0, by omega, rfl, fun k h1 h2 => by omega⟩
theorem er_Adj_add {L : List er_Ed} {fi nx fi' nx' : Int → Int} {nil a b c : Int} (h : er_Adj L fi nx nil) (ha0 : 0 ≤ a) (ha1 : a < 136) (hb0 : 0 ≤ b) (hb1 : b < 136)
    (hf : ∀ v : Int, 0 ≤ v → v < 136 → fi' v = if v = b then 2 * (L.length : Int) + 1 else if v = a then 2 * (L.length : Int) else fi v)
    (hx0 : nx' (2 * (L.length : Int)) = fi a) (hx1 : nx' (2 * (L.length : Int) + 1) = if b = a then 2 * (L.length : Int) else fi b) (hx : ∀ e : Int, 0 ≤ e → e < 2 * (L.length : Int) → nx' e = nx e) : er_Adj (L ++ [(a, b, c)]) fi' nx' nil := by
  obtain ⟨n1, n2, n3, n4⟩ := er_fr_new (L := L) (t := (a, b, c))
  have hlen : (2 * ((L ++ [(a, b, c)]).length : Int)) = 2 * (L.length : Int) + 1 + 1 := by simp; omega
  have base : ∀ v : Int, 0 ≤ v → v < 136 → er_last (L ++ [(a, b, c)]) nil v (2 * (L.length : Int)) (fi v) := fun v h0 h1 => er_last_app (h.1 v h0 h1) (Int.le_refl _)
  have mid : ∀ v : Int, 0 ≤ v → v < 136 → er_last (L ++ [(a, b, c)]) nil v (2 * (L.length : Int) + 1) (if v = a then 2 * (L.length : Int) else fi v) := by
    intro v h0 h1
    by_cases hv : v = a
    · rw [if_pos hv]
      have := er_last_now (L := L ++ [(a, b, c)]) (nil := nil) (e := 2 * (L.length : Int)) (by omega)
      rw [n1] at this
      rw [hv]
      exact this
    · rw [if_neg hv]
      exact er_last_step (base v h0 h1) (by rw [n1]; exact fun z => hv z.symm)
  refine ⟨fun v h0 h1 => ?_, fun e h0 h1 => ?_⟩
  · rw [hlen, hf v h0 h1]
    by_cases hv : v = b
    · rw [if_pos hv]
      have := er_last_now (L := L ++ [(a, b, c)]) (nil := nil) (e := 2 * (L.length : Int) + 1) (by omega)
      rw [n3] at this
      rw [hv]
      exact this
    · rw [if_neg hv]
      exact er_last_step (mid v h0 h1) (by rw [n3]; exact fun z => hv z.symm)
  · rw [hlen] at h1
    by_cases he : e < 2 * (L.length : Int)
    · rw [hx e h0 he, er_fr_app h0 he]
      exact er_last_app (h.2 e h0 he) (by omega)
    · rcases (by omega : e = 2 * (L.length : Int) ∨ e = 2 * (L.length : Int) + 1) with rfl | rfl
      · rw [hx0, n1]
        exact base a ha0 ha1
      · rw [hx1, n3]
        have := mid b hb0 hb1
        exact this
/-- the search: nodes seen, the queue, the edges by which they were reached; i nodes are through, of the i-th the edges above x -/
def er_BI (L : List er_Ed) (rm : Int → Int) (vis : Int → Prop) (q by' : Int → Int) (cnt i x : Int) : Prop :=
  1 ≤ cnt ∧ 0 ≤ i ∧ i ≤ cnt ∧ q 0 = 0 ∧ vis 0
  ∧ (∀ j, 0 ≤ j → j < cnt → 0 ≤ q j ∧ q j < 136 ∧ vis (q j))
  ∧ (∀ v : Int, 0 ≤ v → v < 136 → vis v → ∃ j, 0 ≤ j ∧ j < cnt ∧ q j = v)
  ∧ (∀ j, 1 ≤ j → j < cnt → q j ≠ 0 ∧ 0 ≤ by' (q j) ∧ by' (q j) < 2 * (L.length : Int) ∧ er_to L (by' (q j)) = q j ∧ 0 < rm (by' (q j)) ∧ ∃ k, 0 ≤ k ∧ k < j ∧ er_fr L (by' (q j)) = q k)
  ∧ (∀ e : Int, 0 ≤ e → e < 2 * (L.length : Int) → 0 < rm e → ∀ j, 0 ≤ j → j < i → er_fr L e = q j → vis (er_to L e))
  ∧ (i < cnt → ∀ e : Int, 0 ≤ e → x < e → e < 2 * (L.length : Int) → 0 < rm e → er_fr L e = q i → vis (er_to L e))
  ∧ cnt = er_sum 136 (fun v => er_ic (vis (v : Int)))
theorem er_BI_init {L : List er_Ed} {rm : Int → Int} {vis : Int → Prop} {q by' : Int → Int} {x : Int} (hv : ∀ v : Int, 0 ≤ v → v < 136 → (vis v ↔ v = 0)) (hq : q 0 = 0) (hx : 2 * (L.length : Int) - 1 ≤ x) : er_BI L rm vis q by' 1 0 x := by
  have h0 : vis 0 := (hv 0 (by omega) (by omega)).mpr rfl
  refine ⟨by omega, by omega, by omega, hq, h0, fun j j0 j1 => ?_, fun v v0 v1 hvis => ⟨0, by omega, by omega, by rw [hq]; exact ((hv v v0 v1).mp hvis).symm⟩, fun j j1 j2 => by omega, fun e _ _ _ j j0 j1 => by omega, fun _ e _ h1 h2 => by omega, ?_⟩
  · rw [show j = 0 by omega, hq]
    exact ⟨by omega, by omega, h0⟩
  · rw [er_sum_one (k := 0) (g := fun _ => 0) (by omega) (fun i hi hi0 => er_ic_f (fun z => by have := (hv (i : Int) (by omega) (by omega)).mp z; omega)), er_sum_zero (fun _ _ => rfl), show er_ic (vis ((0 : Nat) : Int)) = 1 from er_ic_t h0]
    rfl
/-- there is room for one that is not seen yet -/
theorem er_BI_room {L : List er_Ed} {rm : Int → Int} {vis : Int → Prop} {q by' : Int → Int} {cnt i x v : Int} (h : er_BI L rm vis q by' cnt i x) (h0 : 0 ≤ v) (h1 : v < 136) (hn : ¬ vis v) : cnt ≤ 135 := by
  have hc := h.2.2.2.2.2.2.2.2.2.2
  have h2 := er_sum_one (n := 136) (k := v.toNat) (f := fun v => er_ic (vis (v : Int))) (g := fun k => if k = v.toNat then 1 else er_ic (vis (k : Int))) (by omega) (fun i _ hi => (if_neg hi).symm)
  have h3 : er_sum 136 (fun k => if k = v.toNat then 1 else er_ic (vis (k : Int))) ≤ er_sum 136 (fun _ => 1) := er_sum_le (fun i _ => by
    show (if i = v.toNat then (1 : Int) else er_ic (vis (i : Int))) ≤ 1
    split
    · omega
    · rcases er_ic_01 (vis (i : Int)) with h | h <;> omega)
  have h4 : er_sum 136 (fun _ => 1) = 136 := er_sum_ones 136
  rw [if_pos rfl, show er_ic (vis ((v.toNat : Nat) : Int)) = 0 from er_ic_f (by rw [show ((v.toNat : Nat) : Int) = v by omega]; exact hn)] at h2
  omega
theorem er_BI_cnt {L : List er_Ed} {rm : Int → Int} {vis : Int → Prop} {q by' : Int → Int} {cnt i x : Int} (h : er_BI L rm vis q by' cnt i x) : cnt ≤ 136 := by
  have hc := h.2.2.2.2.2.2.2.2.2.2
  have h3 : er_sum 136 (fun k => er_ic (vis (k : Int))) ≤ er_sum 136 (fun _ => 1) := er_sum_le (fun i _ => by rcases er_ic_01 (vis (i : Int)) with h | h <;> omega)
  have h4 : er_sum 136 (fun _ => 1) = 136 := er_sum_ones 136
  omega
/-- the edge x leads to a new node -/
theorem er_BI_visit {L : List er_Ed} {rm : Int → Int} {vis vis' : Int → Prop} {q by' q2 by2 : Int → Int} {cnt i x t : Int} (h : er_BI L rm vis q by' cnt i x) (hi : i < cnt) (hx0 : 0 ≤ x) (hx1 : x < 2 * (L.length : Int)) (hf : er_fr L x = q i) (ht : er_to L x = t) (hr : 0 < rm x) (ht0 : 0 ≤ t) (ht1 : t < 136) (hn : ¬ vis t)
    (hv : ∀ v, vis' v ↔ vis v ∨ v = t) (hq : q2 cnt = t) (hq' : ∀ j, j ≠ cnt → q2 j = q j) (hb : by2 t = x) (hb' : ∀ v, v ≠ t → by2 v = by' v) : er_BI L rm vis' q2 by2 (cnt + 1) i (x - 1) := by
  obtain ⟨a1, a2, a3, a4, a5, a6, a7, a8, a9, a10, a11⟩ := h
  have hold : ∀ j, 0 ≤ j → j < cnt → q2 j = q j := fun j _ h => hq' j (by omega)
  have hne : ∀ j, 0 ≤ j → j < cnt → q j ≠ t := fun j h0 h1 z => hn (z ▸ (a6 j h0 h1).2.2)
  refine ⟨by omega, a2, by omega, by rw [hold 0 (by omega) (by omega)]; exact a4, (hv 0).mpr (Or.inl a5), fun j j0 j1 => ?_, fun v v0 v1 hvis => ?_, fun j j0 j1 => ?_, fun e e0 e1 e2 j j0 j1 ej => ?_, fun _ e e0 e1 e2 e3 e4 => ?_, ?_⟩
  · by_cases hj : j = cnt
    · subst hj
      rw [hq]
      exact ⟨ht0, ht1, (hv t).mpr (Or.inr rfl)⟩
    · rw [hold j j0 (by omega)]
      obtain ⟨b1, b2, b3⟩ := a6 j j0 (by omega)
      exact ⟨b1, b2, (hv _).mpr (Or.inl b3)⟩
  · rcases (hv v).mp hvis with h | h
    · obtain ⟨j, b1, b2, b3⟩ := a7 v v0 v1 h
      exact ⟨j, b1, by omega, by rw [hold j b1 b2]; exact b3⟩
    · exact ⟨cnt, by omega, by omega, by rw [hq, h]⟩
  · by_cases hj : j = cnt
    · subst hj
      rw [hq, hb]
      refine ⟨fun z => hne 0 (by omega) (by omega) (by rw [a4, z]), hx0, hx1, ht, hr, i, a2, hi, by rw [hold i a2 hi]; exact hf⟩
    · obtain ⟨b0, b1, b2, b3, b4, k, b5, b6, b7⟩ := a8 j j0 (by omega)
      rw [hold j (by omega) (by omega), hb' _ (hne j (by omega) (by omega))]
      exact ⟨b0, b1, b2, b3, b4, k, b5, b6, by rw [hold k b5 (by omega)]; exact b7⟩
  · rw [hold j j0 (by omega)] at ej
    exact (hv _).mpr (Or.inl (a9 e e0 e1 e2 j j0 j1 ej))
  · rw [hold i a2 hi] at e4
    by_cases hex : e = x
    · subst hex
      exact (hv _).mpr (Or.inr ht)
    · exact (hv _).mpr (Or.inl (a10 hi e e0 (by omega) e2 e3 e4))
  · rw [er_sum_one (k := t.toNat) (g := fun v => er_ic (vis (v : Int))) (by omega) (fun k _ hk => er_ic_iff ⟨fun z => (((hv k).mp z).resolve_right (fun z => hk (by omega))), fun z => (hv k).mpr (Or.inl z)⟩)]
    have c : ((t.toNat : Nat) : Int) = t := by omega
    rw [c, er_ic_t ((hv t).mpr (Or.inr rfl)), er_ic_f hn]
    omega
/-- the edge x leads nowhere new -/
theorem er_BI_skip {L : List er_Ed} {rm : Int → Int} {vis : Int → Prop} {q by' : Int → Int} {cnt i x : Int} (h : er_BI L rm vis q by' cnt i x) (hs : rm x ≤ 0 ∨ vis (er_to L x)) : er_BI L rm vis q by' cnt i (x - 1) := by
  obtain ⟨a1, a2, a3, a4, a5, a6, a7, a8, a9, a10, a11⟩ := h
  refine ⟨a1, a2, a3, a4, a5, a6, a7, a8, a9, fun hi e e0 e1 e2 e3 e4 => ?_, a11⟩
  by_cases hex : e = x
  · subst hex
    exact hs.resolve_left (by omega)
  · exact a10 hi e e0 (by omega) e2 e3 e4
/-- on to the next edge of the chain -/
theorem er_BI_next {L : List er_Ed} {rm : Int → Int} {vis : Int → Prop} {q by' : Int → Int} {cnt i x nil y : Int} (h : er_BI L rm vis q by' cnt i (x - 1)) (hl : er_last L nil (q i) x y) (hnil : nil < 0) : er_BI L rm vis q by' cnt i y := by
  obtain ⟨a1, a2, a3, a4, a5, a6, a7, a8, a9, a10, a11⟩ := h
  refine ⟨a1, a2, a3, a4, a5, a6, a7, a8, a9, fun hi e e0 e1 e2 e3 e4 => ?_, a11⟩
  by_cases hex : e < x
  · exfalso
    rcases hl with ⟨_, h2⟩ | ⟨h1, h2, h3, h4⟩
    · exact h2 e e0 hex e4
    · exact h4 e e1 hex e4
  · exact a10 hi e e0 (by omega) e2 e3 e4
/-- the i-th node is through -/
theorem er_BI_through {L : List er_Ed} {rm : Int → Int} {vis : Int → Prop} {q by' : Int → Int} {cnt i x y : Int} (h : er_BI L rm vis q by' cnt i x) (hi : i < cnt) (hx : x < 0) (hy : 2 * (L.length : Int) - 1 ≤ y) : er_BI L rm vis q by' cnt (i + 1) y := by
  obtain ⟨a1, a2, a3, a4, a5, a6, a7, a8, a9, a10, a11⟩ := h
  refine ⟨a1, by omega, by omega, a4, a5, a6, a7, a8, fun e e0 e1 e2 j j0 j1 ej => ?_, fun _ e _ e1 e2 => by omega, a11⟩
  by_cases hj : j = i
  · subst hj
    exact a10 hi e e0 (by omega) e1 e2 ej
  · exact a9 e e0 e1 e2 j j0 (by omega) ej
theorem er_clo_e {L : List er_Ed} {rm : Int → Int} {S : Int → Prop} (h : er_clo L rm S) {e : Int} (h0 : 0 ≤ e) (h1 : e < 2 * (L.length : Int)) (hr : 0 < rm e) (hs : S (er_fr L e)) : S (er_to L e) := by
  have hk := h (e / 2).toNat (by omega)
  rw [show (((e / 2).toNat : Nat) : Int) = e / 2 by omega] at hk
  unfold er_fr at hs
  unfold er_to
  rcases (by omega : e % 2 = 0 ∨ e % 2 = 1) with hp | hp
  · rw [if_pos hp] at hs ⊢
    exact hk.1 (by rw [show 2 * (e / 2) = e by omega]; exact hr) hs
  · rw [if_neg (by omega)] at hs ⊢
    exact hk.2 (by rw [show 2 * (e / 2) + 1 = e by omega]; exact hr) hs
theorem er_clo_of {L : List er_Ed} {rm : Int → Int} {S : Int → Prop} (h : ∀ e : Int, 0 ≤ e → e < 2 * (L.length : Int) → 0 < rm e → S (er_fr L e) → S (er_to L e)) : er_clo L rm S := by
  intro i hi
  have a := h (2 * (i : Int)) (by omega) (by omega)
  have b := h (2 * (i : Int) + 1) (by omega) (by omega)
  have e1 : ((2 * (i : Int)) / 2).toNat = i := by omega
  have e2 : ((2 * (i : Int) + 1) / 2).toNat = i := by omega
  unfold er_fr er_to at a b
  rw [if_pos (by omega), if_pos (by omega), e1] at a
  rw [if_neg (by omega), if_neg (by omega), e2] at b
  exact ⟨a, b⟩
theorem er_fr_bd {L : List er_Ed} (h : er_Bd L) {e : Int} (h0 : 0 ≤ e) (h1 : e < 2 * (L.length : Int)) : 0 ≤ er_fr L e ∧ er_fr L e < 136 ∧ 0 ≤ er_to L e ∧ er_to L e < 136 := by
  obtain ⟨a, b, c, d, -⟩ := h (e / 2).toNat (by omega)
  unfold er_fr er_to
  split <;> exact ⟨by assumption, by assumption, by assumption, by assumption⟩
/-- whatever is seen is near -/
theorem er_BI_near {L : List er_Ed} {rm : Int → Int} {vis : Int → Prop} {q by' : Int → Int} {cnt i x : Int} (h : er_BI L rm vis q by' cnt i x) : ∀ (n : Nat) (j : Int), j < n → 0 ≤ j → j < cnt → er_near L rm (q j) := by
  obtain ⟨a1, a2, a3, a4, a5, a6, a7, a8, a9, a10, a11⟩ := h
  intro n
  induction n with
  | zero => intro j h0 h1; omega
  | succ n ih =>
    intro j h0 h1 h2
    by_cases hj : j = 0
    · rw [hj, a4]
      exact er_near_0 L rm
    · obtain ⟨_, b1, b2, b3, b4, k, b5, b6, b7⟩ := a8 j (by omega) h2
      have hk := ih k (by omega) b5 (by omega)
      rw [← b3]
      refine er_clo_e (er_near_clo L rm) b1 b2 b4 ?_
      rw [b7]
      exact hk
/-- the search is through: seen is near -/
theorem er_BI_done {L : List er_Ed} {rm : Int → Int} {vis : Int → Prop} {q by' : Int → Int} {cnt i x : Int} (h : er_BI L rm vis q by' cnt i x) (hi : i = cnt) (hb : er_Bd L) : ∀ v : Int, 0 ≤ v → v < 136 → (vis v ↔ er_near L rm v) := by
  intro v v0 v1
  constructor
  · intro hv
    obtain ⟨j, b1, b2, b3⟩ := h.2.2.2.2.2.2.1 v v0 v1 hv
    rw [← b3]
    exact er_BI_near h (j.toNat + 1) j (by omega) b1 b2
  · intro hn
    refine hn vis h.2.2.2.2.1 (er_clo_of (fun e e0 e1 e2 e3 => ?_))
    obtain ⟨c1, c2, -⟩ := er_fr_bd hb e0 e1
    obtain ⟨j, b1, b2, b3⟩ := h.2.2.2.2.2.2.1 _ c1 c2 e3
    exact h.2.2.2.2.2.2.2.2.1 e e0 e1 e2 j b1 (by omega) b3.symm
/-- the way back from x to the source -/
def er_chain (L : List er_Ed) (by' : Int → Int) : Int → List Int → Prop
  | x, [] => x = 0
  | x, e :: es => x ≠ 0 ∧ 0 ≤ x ∧ x < 136 ∧ e = by' x ∧ 0 ≤ e ∧ e < 2 * (L.length : Int) ∧ er_to L e = x ∧ er_chain L by' (er_fr L e) es
theorem er_BI_way {L : List er_Ed} {rm : Int → Int} {vis : Int → Prop} {q by' : Int → Int} {cnt i x : Int} (h : er_BI L rm vis q by' cnt i x) : ∀ (n : Nat) (j : Int), j < n → 0 ≤ j → j < cnt → ∃ es : List Int, er_chain L by' (q j) es ∧ (es.length : Int) ≤ j ∧ ∀ e ∈ es, 0 < rm e := by
  obtain ⟨a1, a2, a3, a4, a5, a6, a7, a8, a9, a10, a11⟩ := h
  intro n
  induction n with
  | zero => intro j h0 h1; omega
  | succ n ih =>
    intro j h0 h1 h2
    by_cases hj : j = 0
    · exact ⟨[], by rw [hj, a4]; rfl, by simp; omega, fun e he => by simp at he⟩
    · obtain ⟨b0, b1, b2, b3, b4, k, b5, b6, b7⟩ := a8 j (by omega) h2
      obtain ⟨es, c1, c2, c3⟩ := ih k (by omega) b5 (by omega)
      obtain ⟨d1, d2, -⟩ := a6 j h1 h2
      refine ⟨by' (q j) :: es, ⟨b0, d1, d2, rfl, b1, b2, b3, by rw [b7]; exact c1⟩, by simp only [List.length_cons]; omega, fun e he => ?_⟩
      rcases List.mem_cons.mp he with rfl | he
      · exact b4
      · exact c3 e he
theorem er_chain_det {L : List er_Ed} {by' : Int → Int} : ∀ (es es' : List Int) (x : Int), er_chain L by' x es → er_chain L by' x es' → es = es' := by
  intro es
  induction es with
  | nil =>
    intro es' x h h'
    cases es' with
    | nil => rfl
    | cons e t => exact absurd h h'.1
  | cons e t ih =>
    intro es' x h h'
    cases es' with
    | nil => exact absurd h' h.1
    | cons e' t' =>
      obtain ⟨_, _, _, h1, _, _, _, h2⟩ := h
      obtain ⟨_, _, _, h1', _, _, _, h2'⟩ := h'
      subst h1
      subst h1'
      rw [ih t' _ h2 h2']
theorem er_chain_mem {L : List er_Ed} {by' : Int → Int} : ∀ (es : List Int) (x e : Int), er_chain L by' x es → e ∈ es → ∃ ys, er_chain L by' (er_to L e) (e :: ys) ∧ ys.length < es.length := by
  intro es
  induction es with
  | nil => intro x e _ h; simp at h
  | cons a t ih =>
    intro x e h he
    rcases List.mem_cons.mp he with rfl | he
    · refine ⟨t, ?_, by simp⟩
      rw [h.2.2.2.2.2.2.1]
      exact h
    · obtain ⟨ys, h1, h2⟩ := ih _ e h.2.2.2.2.2.2.2 he
      exact ⟨ys, h1, by simp only [List.length_cons]; omega⟩
theorem er_chain_new {L : List er_Ed} {by' : Int → Int} {x e : Int} {es : List Int} (h : er_chain L by' x (e :: es)) : e ∉ es := by
  intro he
  obtain ⟨ys, h1, h2⟩ := er_chain_mem es _ e h.2.2.2.2.2.2.2 he
  rw [h.2.2.2.2.2.2.1] at h1
  have := er_chain_det _ _ _ h h1
  simp at this
  rw [this] at h2
  omega
/-- d more along every edge of the list -/
def er_upl (rm : Int → Int) : List Int → Int → Int → Int
  | [], _ => rm
  | e :: es, d => er_upl (er_up rm e d) es d
theorem er_upl_exc {L : List er_Ed} {by' : Int → Int} {d : Int} : ∀ (es : List Int) (x : Int) (rm : Int → Int) (v : Int), er_chain L by' x es → er_exc L (er_upl rm es d) v = er_exc L rm v + d * (er_dl 0 v - er_dl x v) := by
  intro es
  induction es with
  | nil =>
    intro x rm v h
    rw [show x = 0 from h, Int.sub_self, Int.mul_zero, Int.add_zero]
    rfl
  | cons e t ih =>
    intro x rm v h
    obtain ⟨_, _, _, _, h1, h2, h3, h4⟩ := h
    show er_exc L (er_upl (er_up rm e d) t d) v = _
    rw [ih _ _ v h4, er_exc_up h1 h2, h3, Int.mul_sub, Int.mul_sub, Int.mul_sub]
    omega
theorem er_up_room {rm : Int → Int} {e d k : Int} (hd : 0 ≤ d) (he : d ≤ rm e) (hk : 0 ≤ rm k) : 0 ≤ er_up rm e d k := by
  unfold er_up
  split
  · omega
  · split
    · next h => rw [h] at hk; omega
    · exact hk
theorem er_up_pair {rm : Int → Int} {e d i : Int} (hi : i % 2 = 0) : er_up rm e d i + er_up rm e d (i + 1) = rm i + rm (i + 1) := by
  unfold er_up er_px
  by_cases h1 : i = e
  · subst h1
    rw [if_pos rfl, if_neg (by omega), if_pos (by omega), show i + 1 - 2 * (i % 2) = i + 1 by omega]
    omega
  · by_cases h2 : i + 1 = e
    · subst h2
      rw [if_neg (by omega), if_pos (by omega), if_pos rfl, show i + 1 + 1 - 2 * ((i + 1) % 2) = i by omega]
      omega
    · rw [if_neg h1, if_neg (by omega), if_neg (by omega), if_neg (by omega)]
theorem er_up_keep {rm : Int → Int} {e d k : Int} (hd : 0 ≤ d) (hk : k ≠ e) : rm k ≤ er_up rm e d k := by
  unfold er_up
  rw [if_neg hk]
  split
  · next h => rw [h]; omega
  · omega
theorem er_upl_ok {L : List er_Ed} {by' : Int → Int} {d : Int} (hd : 0 ≤ d) : ∀ (es : List Int) (x : Int) (rm : Int → Int), er_chain L by' x es → (∀ e ∈ es, d ≤ rm e) → (∀ k : Int, 0 ≤ k → k < 2 * (L.length : Int) → 0 ≤ rm k) → (∀ k : Int, 0 ≤ k → k < 2 * (L.length : Int) → 0 ≤ er_upl rm es d k) ∧ ∀ i, i % 2 = 0 → er_upl rm es d i + er_upl rm es d (i + 1) = rm i + rm (i + 1) := by
  intro es
  induction es with
  | nil => intro x rm _ _ h; exact ⟨h, fun _ _ => rfl⟩
  | cons e t ih =>
    intro x rm h hr h0
    have hnew := er_chain_new h
    obtain ⟨_, _, _, _, h1, h2, h3, h4⟩ := h
    obtain ⟨r1, r2⟩ := ih _ (er_up rm e d) h4 (fun k hk => Int.le_trans (hr k (List.mem_cons_of_mem _ hk)) (er_up_keep hd (fun z => hnew (z ▸ hk)))) (fun k k0 k1 => er_up_room hd (hr e List.mem_cons_self) (h0 k k0 k1))
    exact ⟨r1, fun i hi => (r2 i hi).trans (er_up_pair hi)⟩
/-- along a way found: the flow grows by d -/
theorem er_FO_way {L : List er_Ed} {by' : Int → Int} {rm : Int → Int} {d : Int} {es : List Int} (h : er_FO L rm) (hd : 0 ≤ d) (hc : er_chain L by' 1 es) (hr : ∀ e ∈ es, d ≤ rm e) : er_FO L (er_upl rm es d) ∧ er_exc L (er_upl rm es d) 0 = er_exc L rm 0 + d := by
  have hnn : ∀ k : Int, 0 ≤ k → k < 2 * (L.length : Int) → 0 ≤ rm k := by
    intro k k0 k1
    obtain ⟨g0, g1, -⟩ := h.1 (k / 2).toNat (by omega)
    rw [show (((k / 2).toNat : Nat) : Int) = k / 2 by omega] at g0 g1
    rcases (by omega : k % 2 = 0 ∨ k % 2 = 1) with hp | hp
    · rwa [show 2 * (k / 2) = k by omega] at g0
    · rwa [show 2 * (k / 2) + 1 = k by omega] at g1
  obtain ⟨r1, r2⟩ := er_upl_ok hd es 1 rm hc hr hnn
  refine ⟨⟨fun i hi => ?_, fun v v0 v1 => ?_⟩, ?_⟩
  · obtain ⟨_, _, g2, g3⟩ := h.1 i hi
    exact ⟨r1 _ (by omega) (by omega), r1 _ (by omega) (by omega), by rw [r2 _ (by omega)]; exact g2, g3⟩
  · rw [er_upl_exc es 1 rm v hc, h.2 v v0 v1, er_dl_f (Ne.symm v0), er_dl_f (Ne.symm v1)]
    simp
  · rw [er_upl_exc es 1 rm 0 hc, er_dl_t, er_dl_f (by decide)]
    omega
