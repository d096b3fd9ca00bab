/-! the class's layering: order, a pin or pair that is tried -/
theorem er_isY_c {y : Nat} (h : er_isY y) : y = 62 ∨ y = 67 ∨ y = 72 ∨ y = 77 := h
/-- the order so far -/
def er_ol (y : Nat) (m : er_M) (l : List Nat) : Prop := m y 2 = (l.length : Int) ∧ ∀ (i : Nat) (h : i < l.length), m (y + 1) (i : Int) = (l[i] : Int)
def er_OF (y : Nat) : Nat → Int → Prop := fun c k => c = y + 1 ∨ (c = y ∧ k = 2)
section ERY
variable {K : er_K} {y : Nat} {m : er_M}
theorem sp_Y_addPlace {l : List Nat} {r c : Nat} {Q : er_M → Prop} (hy : er_isY y) (h : er_ol y m l) (hl : l.length < 36) (hQ : ∀ m', er_ol y m' (l ++ [6 * r + c]) → er_kp (er_OF y) m m' → Q m') : er_SV K mi_Y_addPlace [.inr y, .inl (r : Int), .inl (c : Int)] m Q := by
  obtain ⟨h1, h2⟩ := h
  refine vc_Y_addPlace hy ⟨⟨by omega, by omega⟩, fun z => by omega, fun _ => vc_R_placeOf ⟨by omega, by omega, fun m7 e7 m8 e8 => ?_⟩⟩
  have g2 : m7 y 2 = (l.length : Int) := by rw [e7, er_st_c (by omega)]; exact h1
  refine hQ m8 ⟨by rw [e8, er_st_s, g2]; simp, fun i hi => ?_⟩ (by rw [e8, e7]; exact (er_kp.st (Or.inl rfl)).tr (er_kp.st (Or.inr ⟨rfl, rfl⟩)))
  rw [List.length_append, List.length_singleton] at hi
  rw [e8, er_st_c (by omega), e7, h1]
  by_cases hil : i < l.length
  · rw [er_st_k (by omega), List.getElem_append_left hil]
    exact h2 i hil
  · rw [show (i : Int) = (l.length : Int) by omega, er_st_s, List.getElem_append_right (by omega)]
    simp
    omega
/-- the order grew, from a memory m0 -/
def er_og (y : Nat) (m0 : er_M) (l : List Nat) (m : er_M) : Prop := er_ol y m l ∧ er_kp (er_OF y) m0 m
theorem er_BM.ky {m' : er_M} {R C : Nat} {ch tl : Int} (h : er_BM m R C ch tl) (hy : er_isY y) (hk : er_kp (er_OF y) m m') : er_BM m' R C ch tl := by
  obtain ⟨h1, h2, h3, h4, h5⟩ := h
  have := er_isY_c hy
  have e : ∀ k, m' 2 k = m 2 k := fun k => hk 2 k (by unfold er_OF; omega)
  exact ⟨by rw [e]; exact h1, by rw [e]; exact h2, by rw [e]; exact h3, by rw [e]; exact h4, h5⟩
theorem sp_Y_addByRows {R C : Nat} {ch tl : Int} {Q : er_M → Prop} (hy : er_isY y) (hb : er_BM m R C ch tl) (h : er_ol y m []) (hl : (er_rows R C).length ≤ 36) (hQ : ∀ m', er_og y m (er_rows R C) m' → Q m') : er_SV K mi_Y_addByRows [.inr y, .inr 2] m Q := by
  have inner : ∀ r : Nat, r < R → (∀ m1, er_og y m (er_fN (r + 1) (fun r => er_fN C (fun c => [6 * r + c]))) m1 → wp_Y_addByRows_2 K y ((r + 1 : Nat) : Int) m1 Q) → ∀ (d c : Nat) (m1 : er_M), c + d = C → er_og y m (er_fN r (fun r => er_fN C (fun c => [6 * r + c])) ++ er_fN c (fun c => [6 * r + c])) m1 → wp_Y_addByRows_12 K y (r : Int) (c : Int) m1 Q := by
    intro r hr hnext d
    induction d with
    | zero =>
      intro c m1 hc hi
      obtain ⟨b1, b2, b3, b4, b5, b6, b7, b8, b9⟩ := hb.ky hy hi.2
      refine vc_Y_addByRows_12 hy ⟨⟨by omega, by omega⟩, ⟨by omega, by omega⟩, fun _ => ?_, fun hlt => by omega⟩
      refine hnext m1 ?_
      rw [show C = c by omega] at hi ⊢
      exact hi
    | succ d ih =>
      intro c m1 hc hi
      obtain ⟨b1, b2, b3, b4, b5, b6, b7, b8, b9⟩ := hb.ky hy hi.2
      have hpre := Nat.le_trans (er_fN_pre (g := fun r c => [6 * r + c]) hr (show c < C by omega)) hl
      simp only [List.length_singleton] at hpre
      refine vc_Y_addByRows_12 hy ⟨⟨by omega, by omega⟩, ⟨by omega, by omega⟩, fun hlt => by omega, fun _ => ?_⟩
      refine sp_Y_addPlace hy hi.1 (by rw [List.length_append]; omega) (fun m2 h2 k2 => ih (c + 1) m2 (by omega) ⟨?_, hi.2.tr k2⟩)
      rw [List.append_assoc] at h2
      exact h2
  have outer : ∀ (d r : Nat) (m1 : er_M), r + d = R → er_og y m (er_fN r (fun r => er_fN C (fun c => [6 * r + c]))) m1 → wp_Y_addByRows_2 K y (r : Int) m1 Q := by
    intro d
    induction d with
    | zero =>
      intro r m1 hr hi
      obtain ⟨b1, b2, b3, b4, b5, b6, b7, b8, b9⟩ := hb.ky hy hi.2
      refine vc_Y_addByRows_2 hy ⟨⟨by omega, by omega⟩, ⟨by omega, by omega⟩, fun _ => ?_, fun hlt => by omega⟩
      refine hQ m1 ?_
      unfold er_rows
      rw [show R = r by omega]
      exact hi
    | succ d ih =>
      intro r m1 hr hi
      obtain ⟨b1, b2, b3, b4, b5, b6, b7, b8, b9⟩ := hb.ky hy hi.2
      refine vc_Y_addByRows_2 hy ⟨⟨by omega, by omega⟩, ⟨by omega, by omega⟩, fun hlt => by omega, fun _ => ?_⟩
      refine inner r (by omega) (fun m2 h2 => ih (r + 1) m2 (by omega) h2) C 0 m1 (by omega) ?_
      simp only [er_fN, List.append_nil]
      exact hi
  exact vc_Y_addByRows hy (outer R 0 m (by omega) ⟨h, er_kp.rf⟩)
theorem sp_Y_addByColumns {R C : Nat} {ch tl : Int} {Q : er_M → Prop} (hy : er_isY y) (hb : er_BM m R C ch tl) (h : er_ol y m []) (hl : (er_cols R C).length ≤ 36) (hQ : ∀ m', er_og y m (er_cols R C) m' → Q m') : er_SV K mi_Y_addByColumns [.inr y, .inr 2] m Q := by
  have inner : ∀ c : Nat, c < C → (∀ m1, er_og y m (er_fN (c + 1) (fun c => er_fN R (fun r => [6 * r + c]))) m1 → wp_Y_addByColumns_2 K y ((c + 1 : Nat) : Int) m1 Q) → ∀ (d r : Nat) (m1 : er_M), r + d = R → er_og y m (er_fN c (fun c => er_fN R (fun r => [6 * r + c])) ++ er_fN r (fun r => [6 * r + c])) m1 → wp_Y_addByColumns_12 K y (c : Int) (r : Int) m1 Q := by
    intro c hc hnext d
    induction d with
    | zero =>
      intro r m1 hr hi
      obtain ⟨b1, b2, b3, b4, b5, b6, b7, b8, b9⟩ := hb.ky hy hi.2
      refine vc_Y_addByColumns_12 hy ⟨⟨by omega, by omega⟩, ⟨by omega, by omega⟩, fun _ => ?_, fun hlt => by omega⟩
      refine hnext m1 ?_
      rw [show R = r by omega] at hi ⊢
      exact hi
    | succ d ih =>
      intro r m1 hr hi
      obtain ⟨b1, b2, b3, b4, b5, b6, b7, b8, b9⟩ := hb.ky hy hi.2
      have hpre := Nat.le_trans (er_fN_pre (g := fun c r => [6 * r + c]) hc (show r < R by omega)) hl
      simp only [List.length_singleton] at hpre
      refine vc_Y_addByColumns_12 hy ⟨⟨by omega, by omega⟩, ⟨by omega, by omega⟩, fun hlt => by omega, fun _ => ?_⟩
      refine sp_Y_addPlace hy hi.1 (by rw [List.length_append]; omega) (fun m2 h2 k2 => ih (r + 1) m2 (by omega) ⟨?_, hi.2.tr k2⟩)
      rw [List.append_assoc] at h2
      exact h2
  have outer : ∀ (d c : Nat) (m1 : er_M), c + d = C → er_og y m (er_fN c (fun c => er_fN R (fun r => [6 * r + c]))) m1 → wp_Y_addByColumns_2 K y (c : Int) m1 Q := by
    intro d
    induction d with
    | zero =>
      intro c m1 hc hi
      obtain ⟨b1, b2, b3, b4, b5, b6, b7, b8, b9⟩ := hb.ky hy hi.2
      refine vc_Y_addByColumns_2 hy ⟨⟨by omega, by omega⟩, ⟨by omega, by omega⟩, fun _ => ?_, fun hlt => by omega⟩
      refine hQ m1 ?_
      unfold er_cols
      rw [show C = c by omega]
      exact hi
    | succ d ih =>
      intro c m1 hc hi
      obtain ⟨b1, b2, b3, b4, b5, b6, b7, b8, b9⟩ := hb.ky hy hi.2
      refine vc_Y_addByColumns_2 hy ⟨⟨by omega, by omega⟩, ⟨by omega, by omega⟩, fun hlt => by omega, fun _ => ?_⟩
      refine inner c (by omega) (fun m2 h2 => ih (c + 1) m2 (by omega) h2) R 0 m1 (by omega) ?_
      simp only [er_fN, List.append_nil]
      exact hi
  exact vc_Y_addByColumns hy (outer C 0 m (by omega) ⟨h, er_kp.rf⟩)
theorem sp_Y_addRing {R C : Nat} {ch tl i : Int} {l0 : List Nat} {Q : er_M → Prop} (hy : er_isY y) (hb : er_BM m R C ch tl) (hi0 : 0 ≤ i ∧ i ≤ 2) (h : er_ol y m l0) (hl : (l0 ++ er_rngs R C i).length ≤ 36) (hQ : ∀ m', er_og y m (l0 ++ er_rngs R C i) m' → Q m') : er_SV K mi_Y_addRing [.inr y, .inr 2, .inl i] m Q := by
  rw [List.length_append] at hl
  have inner : ∀ r : Nat, r < R → (∀ m1, er_og y m (l0 ++ er_fN (r + 1) (fun r => er_fN C (fun c => if er_ring R C (r : Int) (c : Int) = i then [6 * r + c] else []))) m1 → wp_Y_addRing_2 K y i ((r + 1 : Nat) : Int) m1 Q) → ∀ (d c : Nat) (m1 : er_M), c + d = C → er_og y m (l0 ++ (er_fN r (fun r => er_fN C (fun c => if er_ring R C (r : Int) (c : Int) = i then [6 * r + c] else [])) ++ er_fN c (fun c => if er_ring R C (r : Int) (c : Int) = i then [6 * r + c] else []))) m1 → wp_Y_addRing_13 K y i (r : Int) (c : Int) m1 Q := by
    intro r hr hnext d
    induction d with
    | zero =>
      intro c m1 hc hi
      obtain ⟨b1, b2, b3, b4, b5, b6, b7, b8, b9⟩ := hb.ky hy hi.2
      refine vc_Y_addRing_13 hy ⟨⟨by omega, by omega⟩, ⟨by omega, by omega⟩, fun _ => ?_, fun hlt => by omega⟩
      refine hnext m1 ?_
      rw [show C = c by omega] at hi ⊢
      exact hi
    | succ d ih =>
      intro c m1 hc hi
      obtain ⟨b1, b2, b3, b4, b5, b6, b7, b8, b9⟩ := hb.ky hy hi.2
      have hpre := er_fN_pre (g := fun r c => if er_ring R C (r : Int) (c : Int) = i then [6 * r + c] else []) hr (show c < C by omega)
      have hrg : min (min (r : Int) ((m1 2 0) - 1 - (r : Int))) (min (c : Int) ((m1 2 1) - 1 - (c : Int))) = er_ring R C (r : Int) (c : Int) := by rw [b1, b2]; rfl
      have hrb : -100 ≤ er_ring R C (r : Int) (c : Int) ∧ er_ring R C (r : Int) (c : Int) ≤ 100 := by unfold er_ring; omega
      refine vc_Y_addRing_13 hy ⟨⟨by omega, by omega⟩, ⟨by omega, by omega⟩, fun hlt => by omega, fun _ => ?_⟩
      refine vc_Y_ringOf ⟨⟨by omega, by omega⟩, ⟨by omega, by omega⟩, ⟨by omega, by omega⟩, ⟨by omega, by omega⟩, ⟨by omega, by omega⟩, ⟨by omega, by omega⟩, ?_⟩
      rw [hrg]
      refine ⟨⟨by omega, by omega⟩, ⟨by omega, by omega⟩, fun hne => ?_, fun he => ?_⟩
      · refine ih (c + 1) m1 (by omega) ⟨?_, hi.2⟩
        simp only [er_fN, if_neg hne, List.append_nil]
        exact hi.1
      · have hlen : (er_fN r (fun r => er_fN C (fun c => if er_ring R C (r : Int) (c : Int) = i then [6 * r + c] else []))).length + (er_fN c (fun c => if er_ring R C (r : Int) (c : Int) = i then [6 * r + c] else [])).length + 1 ≤ (er_rngs R C i).length := by
          have h1 : (if er_ring R C (r : Int) (c : Int) = i then [6 * r + c] else []).length = 1 := by rw [if_pos he]; rfl
          rw [h1] at hpre
          exact hpre
        refine sp_Y_addPlace hy hi.1 (by rw [List.length_append, List.length_append]; omega) (fun m2 h2 k2 => ih (c + 1) m2 (by omega) ⟨?_, hi.2.tr k2⟩)
        rw [List.append_assoc, List.append_assoc] at h2
        rw [show er_fN (c + 1) (fun c => if er_ring R C (r : Int) (c : Int) = i then [6 * r + c] else []) = er_fN c (fun c => if er_ring R C (r : Int) (c : Int) = i then [6 * r + c] else []) ++ [6 * r + c] by simp only [er_fN, if_pos he]]
        exact h2
  have outer : ∀ (d r : Nat) (m1 : er_M), r + d = R → er_og y m (l0 ++ er_fN r (fun r => er_fN C (fun c => if er_ring R C (r : Int) (c : Int) = i then [6 * r + c] else []))) m1 → wp_Y_addRing_2 K y i (r : Int) m1 Q := by
    intro d
    induction d with
    | zero =>
      intro r m1 hr hi
      obtain ⟨b1, b2, b3, b4, b5, b6, b7, b8, b9⟩ := hb.ky hy hi.2
      refine vc_Y_addRing_2 hy ⟨⟨by omega, by omega⟩, ⟨by omega, by omega⟩, fun _ => ?_, fun hlt => by omega⟩
      refine hQ m1 ?_
      unfold er_rngs
      rw [show R = r by omega] at hi ⊢
      exact hi
    | succ d ih =>
      intro r m1 hr hi
      obtain ⟨b1, b2, b3, b4, b5, b6, b7, b8, b9⟩ := hb.ky hy hi.2
      refine vc_Y_addRing_2 hy ⟨⟨by omega, by omega⟩, ⟨by omega, by omega⟩, fun hlt => by omega, fun _ => ?_⟩
      refine inner r (by omega) (fun m2 h2 => ih (r + 1) m2 (by omega) h2) C 0 m1 (by omega) ?_
      simp only [er_fN, List.append_nil]
      exact hi
  refine vc_Y_addRing hy (outer R 0 m (by omega) ⟨?_, er_kp.rf⟩)
  simp only [er_fN, List.append_nil]
  exact h
theorem sp_Y_putInOrder {R C s : Nat} {ch tl : Int} {Q : er_M → Prop} (hy : er_isY y) (hb : er_BM m R C ch tl) (hs : m y 0 = (s : Int)) (hs4 : s < 4) (hQ : ∀ m', er_og y m (er_seq R C s) m' → Q m') : er_SV K mi_Y_putInOrder [.inr y, .inr 2] m Q := by
  have hR := hb.2.2.2.2.2.1
  have hC := hb.2.2.2.2.2.2.2.1
  have hlen := (er_seq_all R (by omega) C (by omega) s hs4).1
  have yc := er_isY_c hy
  refine vc_Y_putInOrder hy (fun m1 e1 => ?_)
  have k1 : er_kp (er_OF y) m m1 := by rw [e1]; exact er_kp.st (Or.inr ⟨rfl, rfl⟩)
  have s1 : m1 y 0 = (s : Int) := by rw [e1, er_st_k (by decide)]; exact hs
  have o1 : er_ol y m1 [] := ⟨by rw [e1, er_st_s]; rfl, fun i hi => by simp at hi⟩
  have hb1 := hb.ky hy k1
  refine ⟨⟨by omega, by omega⟩, fun hne0 => ⟨fun hne1 => ?_, fun he1 => ?_⟩, fun he0 => ?_⟩
  · have loop : ∀ (d x : Nat) (m2 : er_M), x + d = 3 → er_og y m (er_fN x (fun i => er_rngs R C (if s = 2 then (i : Int) else 2 - (i : Int)))) m2 → wp_Y_putInOrder_38 K y (x : Int) m2 Q := by
      intro d
      induction d with
      | zero =>
        intro x m2 hx hi
        refine vc_Y_putInOrder_38 hy ⟨⟨by omega, by omega⟩, fun _ => hQ m2 ?_, fun hlt => by omega⟩
        rw [show x = 3 by omega] at hi
        unfold er_seq
        rw [if_neg (by omega), if_neg (by omega)]
        exact hi
      | succ d ih =>
        intro x m2 hx hi
        have hb2 := hb.ky hy hi.2
        have s2 : m2 y 0 = (s : Int) := by rw [hi.2 y 0 (by unfold er_OF; omega)]; exact hs
        have hl2 : (er_fN x (fun i => er_rngs R C (if s = 2 then (i : Int) else 2 - (i : Int))) ++ er_rngs R C (if s = 2 then (x : Int) else 2 - (x : Int))).length ≤ 36 := by
          have h1 := er_fN_mono (f := fun i => er_rngs R C (if s = 2 then (i : Int) else 2 - (i : Int))) (show x + 1 ≤ 3 by omega)
          unfold er_seq at hlen
          rw [if_neg (by omega), if_neg (by omega)] at hlen
          exact Nat.le_trans h1 hlen
        refine vc_Y_putInOrder_38 hy ⟨⟨by omega, by omega⟩, fun hlt => by omega, fun _ => ⟨⟨by omega, by omega⟩, fun hne2 => ?_, fun he2 => ?_⟩⟩
        · rw [if_neg (show ¬ s = 2 by omega)] at hl2
          refine sp_Y_addRing hy hb2 ⟨by omega, by omega⟩ hi.1 hl2 (fun m3 h3 => ih (x + 1) m3 (by omega) ⟨?_, hi.2.tr h3.2⟩)
          simp only [er_fN, if_neg (show ¬ s = 2 by omega)] at h3 ⊢
          exact h3.1
        · rw [if_pos (show s = 2 by omega)] at hl2
          refine sp_Y_addRing hy hb2 ⟨by omega, by omega⟩ hi.1 hl2 (fun m3 h3 => ih (x + 1) m3 (by omega) ⟨?_, hi.2.tr h3.2⟩)
          simp only [er_fN, if_pos (show s = 2 by omega)] at h3 ⊢
          exact h3.1
    exact loop 3 0 m1 (by omega) ⟨o1, k1⟩
  · unfold er_seq at hlen hQ
    rw [if_neg (by omega), if_pos (by omega)] at hlen hQ
    exact sp_Y_addByColumns hy hb1 o1 hlen (fun m2 h2 => hQ m2 ⟨h2.1, k1.tr h2.2⟩)
  · unfold er_seq at hlen hQ
    rw [if_pos (by omega)] at hlen hQ
    exact sp_Y_addByRows hy hb1 o1 hlen (fun m2 h2 => hQ m2 ⟨h2.1, k1.tr h2.2⟩)
end ERY
