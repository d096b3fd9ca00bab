/-! the reference's network: the search, one wire more, all of them -/
/-- where the search writes; where a wire writes -/
def er_MS : Nat → Int → Prop := fun c _ => 94 ≤ c ∧ c ≤ 96
def er_MQ : Nat → Int → Prop := fun c _ => (94 ≤ c ∧ c ≤ 96) ∨ c = 90
theorem er_MN.kp {m m' : er_M} {L : List er_Ed} (h : er_MN m L) (hk : er_kp er_MQ m m') : er_MN m' L := by
  have c1 : m' 88 = m 88 := funext fun q => hk _ _ (by unfold er_MQ; omega)
  have c2 : m' 89 = m 89 := funext fun q => hk _ _ (by unfold er_MQ; omega)
  have c3 : m' 91 = m 91 := funext fun q => hk _ _ (by unfold er_MQ; omega)
  have c4 : m' 92 = m 92 := funext fun q => hk _ _ (by unfold er_MQ; omega)
  have c5 : m' 83 13 = m 83 13 := hk _ _ (by unfold er_MQ; omega)
  unfold er_MN at h ⊢
  rw [c1, c2, c3, c4, c5]
  exact h
/-- what the search has marked -/
def er_nk (m : er_M) (v : Int) : Prop := m 96 v = 1
def er_nz (m : er_M) : Prop := ∀ v : Int, 0 ≤ v → v < 136 → m 96 v = 0 ∨ m 96 v = 1
section ERR
variable {K : er_K} {m0 : er_M} {L : List er_Ed}
def er_JM (m0 : er_M) (L : List er_Ed) (m : er_M) (cnt i x : Int) : Prop := er_kp er_MS m0 m ∧ er_nz m ∧ er_BI L (m0 90) (er_nk m) (m 94) (m 95) cnt i x
theorem sp_M_reach {Q : er_M → Prop} (h : er_MN m0 L) (hf : er_FO L (m0 90)) (hQ : ∀ m', er_kp er_MS m0 m' → er_nz m' → (∀ v : Int, 0 ≤ v → v < 136 → (er_nk m' v ↔ er_near L (m0 90) v)) → (er_nk m' 1 → ∃ es, er_chain L (m' 95) 1 es ∧ ∀ e ∈ es, 0 < m0 90 e) → Q m') : er_SV K mi_M_reach [.inr 83] m0 Q := by
  have hCN := h
  obtain ⟨c1, c2, c3, c4, c5⟩ := hCN
  have keep : ∀ m, er_kp er_MS m0 m → m 91 = m0 91 ∧ m 92 = m0 92 ∧ m 89 = m0 89 ∧ m 90 = m0 90 := fun m hm =>
    ⟨funext fun q => hm _ _ (by unfold er_MS; omega), funext fun q => hm _ _ (by unfold er_MS; omega), funext fun q => hm _ _ (by unfold er_MS; omega), funext fun q => hm _ _ (by unfold er_MS; omega)⟩
  have inner : ∀ i : Int, (∀ (cnt : Int) (m : er_M), er_JM m0 L m cnt (i + 1) (2 * (L.length : Int) - 1) → wp_M_reach_40 K cnt (i + 1) m Q) → ∀ (d : Nat) (x cnt : Int) (m : er_M), x < (d : Int) - 9 → (x = -9 ∨ 0 ≤ x) → x < 2 * (L.length : Int) → i < cnt → (0 ≤ x → er_fr L x = m 94 i) → er_JM m0 L m cnt i x → wp_M_reach_57 K cnt i x m Q := by
    intro i hnext d
    induction d with
    | zero => intro x cnt m hx hx1; omega
    | succ d ih =>
      intro x cnt m hxd hx1 hx2 hi hfx hJ
      obtain ⟨j1, j2, j4⟩ := hJ
      obtain ⟨k1, k2, k3, k4⟩ := keep m j1
      refine vc_M_reach_57 ⟨⟨by omega, by omega⟩, fun hx => hnext cnt m ⟨j1, j2, er_BI_through j4 hi (by omega) (Int.le_refl _)⟩, fun hx => ⟨by omega, by omega, ?_⟩⟩
      have hr := er_rm_bd hf c3 (e := x) (by omega) hx2
      have hto := (c4 x (by omega) hx2).2
      obtain ⟨f1, f2, f3, f4⟩ := er_fr_bd c3 (e := x) (by omega) hx2
      have hlast := c5.2 x (by omega) hx2
      have nxb : (m0 92 x = -9 ∨ 0 ≤ m0 92 x) ∧ m0 92 x < x := by
        rcases hlast with ⟨z, _⟩ | ⟨z1, z2, _⟩ <;> omega
      have tail : ∀ (cnt' : Int) (m' : er_M), i < cnt' → er_fr L x = m' 94 i → er_JM m0 L m' cnt' i (x - 1) → wp_M_reach_125 K cnt' i x m' Q := by
        intro cnt' m' hi' hfr hJ'
        obtain ⟨a1, a2, a4⟩ := hJ'
        obtain ⟨b1, b2, b3, b4⟩ := keep m' a1
        refine vc_M_reach_125 ⟨by omega, by omega, ?_⟩
        rw [b2]
        refine ih _ cnt' m' (by omega) nxb.1 (by omega) hi' (fun hx0 => ?_) ⟨a1, a2, er_BI_next a4 (by rw [← hfr]; exact hlast) (by decide)⟩
        rcases hlast with ⟨z, _⟩ | ⟨_, _, z, _⟩
        · omega
        · rw [z, hfr]
      have hfr := hfx (by omega)
      rw [k4, k3, hto]
      refine ⟨⟨by omega, by omega⟩, fun hle => tail cnt m hi hfr ⟨j1, j2, er_BI_skip j4 (Or.inl hle)⟩, fun hgt => ⟨f3, f4, ?_⟩⟩
      have hm := j2 _ f3 f4
      refine ⟨⟨by omega, by omega⟩, fun he => tail cnt m hi hfr ⟨j1, j2, er_BI_skip j4 (Or.inr (by show m 96 _ = 1; omega))⟩, fun hz => ?_⟩
      have hne : ¬ er_nk m (er_to L x) := by show ¬ m 96 _ = 1; omega
      have hroom := er_BI_room j4 f3 f4 hne
      have hc1 := j4.1
      intro m11 e11
      have g89 : m11 89 x = er_to L x := by rw [e11, er_st_c (by decide), k3, hto]
      rw [g89]
      refine ⟨f3, f4, fun m14 e14 => ⟨by omega, by omega, fun m17 e17 => ?_⟩⟩
      have g89' : m14 89 x = er_to L x := by rw [e14, er_st_c (by decide), g89]
      rw [g89'] at e17
      have hkp : er_kp er_MS m m17 := by
        rw [e17, e14, e11]
        exact ((er_kp.st (by unfold er_MS; omega)).tr (er_kp.st (by unfold er_MS; omega))).tr (er_kp.st (by unfold er_MS; omega))
      have g6 : ∀ v, m17 96 v = if v = er_to L x then 1 else m 96 v := by
        intro v
        rw [e17, e14, e11, er_st_c (by decide), er_st_c (by decide)]
        unfold er_st
        simp
      have g7 : ∀ v, m17 95 v = if v = er_to L x then x else m 95 v := by
        intro v
        rw [e17, e14, e11, er_st_c (by decide)]
        unfold er_st
        simp
      have g8 : ∀ v, m17 94 v = if v = cnt then er_to L x else m 94 v := by
        intro v
        rw [e17, e14, e11]
        unfold er_st
        simp
      have hmk : ∀ v, er_nk m17 v ↔ er_nk m v ∨ v = er_to L x := by
        intro v
        unfold er_nk
        rw [g6]
        by_cases hv : v = er_to L x
        · rw [if_pos hv]; exact ⟨fun _ => Or.inr hv, fun _ => rfl⟩
        · rw [if_neg hv]; exact ⟨Or.inl, fun z => z.resolve_right hv⟩
      refine tail (cnt + 1) m17 (by omega) (by rw [g8, if_neg (by omega)]; exact hfr) ⟨j1.tr hkp, fun v v0 v1 => ?_, ?_⟩
      · rw [g6]
        split
        · exact Or.inr rfl
        · exact j2 v v0 v1
      · exact er_BI_visit j4 hi (by omega) hx2 hfr rfl hgt f3 f4 hne hmk (by rw [g8, if_pos rfl]) (fun j hj => by rw [g8, if_neg hj]) (by rw [g7, if_pos rfl]) (fun v hv => by rw [g7, if_neg hv])
  have outer : ∀ (d : Nat) (i cnt : Int) (m : er_M), 136 - i < d → 0 ≤ i → er_JM m0 L m cnt i (2 * (L.length : Int) - 1) → wp_M_reach_40 K cnt i m Q := by
    intro d
    induction d with
    | zero =>
      intro i cnt m hd h0 hJ
      have := er_BI_cnt hJ.2.2
      have := hJ.2.2.2.2.1
      omega
    | succ d ih =>
      intro i cnt m hd h0 hJ
      obtain ⟨j1, j2, j4⟩ := hJ
      obtain ⟨k1, k2, k3, k4⟩ := keep m j1
      have hc := er_BI_cnt j4
      have hic := j4.2.2.1
      have hc1 := j4.1
      refine vc_M_reach_40 ⟨⟨by omega, by omega⟩, ⟨by omega, by omega⟩, fun hge => ?_, fun hlt => ⟨by omega, by omega, ?_⟩⟩
      · have hd := er_BI_done j4 (by omega) c3
        refine hQ m j1 j2 hd (fun hn => ?_)
        obtain ⟨j, w1, w2, w3⟩ := j4.2.2.2.2.2.2.1 1 (by omega) (by omega) hn
        obtain ⟨es, y1, y2, y3⟩ := er_BI_way j4 (j.toNat + 1) j (by omega) w1 w2
        rw [w3] at y1
        exact ⟨es, y1, y3⟩
      · obtain ⟨q1, q2, q3⟩ := j4.2.2.2.2.2.1 i h0 hlt
        refine ⟨q1, q2, ?_⟩
        rw [k1]
        have hl := c5.1 _ q1 q2
        have hb : (m0 91 (m 94 i) = -9 ∨ 0 ≤ m0 91 (m 94 i)) ∧ m0 91 (m 94 i) < 2 * (L.length : Int) := by
          rcases hl with ⟨z, _⟩ | ⟨z1, z2, _⟩ <;> omega
        refine inner i (fun cnt' m' hJ' => ih (i + 1) cnt' m' (by omega) (by omega) hJ') 770 _ cnt m (by omega) hb.1 hb.2 hlt (fun hx0 => ?_) ⟨j1, j2, er_BI_next j4 hl (by decide)⟩
        rcases hl with ⟨z, _⟩ | ⟨_, _, z, _⟩
        · omega
        · exact z
  have loop : ∀ (d p : Nat) (m : er_M), p + d = 136 → er_kp er_MS m0 m → (∀ v : Int, 0 ≤ v → v < p → m 96 v = 0) → wp_M_reach_2 K (p : Int) m Q := by
    intro d
    induction d with
    | zero =>
      intro p m hp hk hz
      refine vc_M_reach_2 ⟨⟨by omega, by omega⟩, fun _ m3 e3 m4 e4 => ?_, fun hlt => by omega⟩
      have g6 : ∀ v, m4 96 v = if v = 0 then 1 else m 96 v := by
        intro v
        rw [e4, e3, er_st_c (by decide)]
        unfold er_st
        simp
      refine outer 137 0 1 m4 (by omega) (by omega) ⟨?_, fun v v0 v1 => ?_, er_BI_init (fun v v0 v1 => ?_) (by rw [e4, er_st_s]) (Int.le_refl _)⟩
      · rw [e4, e3]
        exact (hk.tr (er_kp.st (by unfold er_MS; omega))).tr (er_kp.st (by unfold er_MS; omega))
      · rw [g6, hz v v0 (by omega)]
        split
        · exact Or.inr rfl
        · exact Or.inl rfl
      · unfold er_nk
        rw [g6, hz v v0 (by omega)]
        by_cases hv : v = 0
        · rw [if_pos hv]; exact ⟨fun _ => hv, fun _ => rfl⟩
        · rw [if_neg hv]; exact ⟨fun z => by omega, fun z => absurd z hv⟩
    | succ d ih =>
      intro p m hp hk hz
      refine vc_M_reach_2 ⟨⟨by omega, by omega⟩, fun hlt => by omega, fun _ => ⟨by omega, by omega, fun m7 e7 => ?_⟩⟩
      refine ih (p + 1) m7 (by omega) (hk.tr (by rw [e7]; exact er_kp.st (by unfold er_MS; omega))) (fun v v0 v1 => ?_)
      rw [e7]
      by_cases hv : v = (p : Int)
      · rw [hv, er_st_s]
      · rw [er_st_k hv]
        exact hz v v0 (by omega)
  exact vc_M_reach (loop 136 0 m0 (by omega) er_kp.rf (fun v v0 v1 => by omega))
theorem sp_M_augment {Q : Int → er_M → Prop} (h : er_MN m0 L) (hf : er_FO L (m0 90))
    (hQ1 : ∀ m' d, 1 ≤ d → d ≤ 1000000 → er_kp er_MQ m0 m' → er_FO L (m' 90) → er_exc L (m' 90) 0 = er_exc L (m0 90) 0 + d → Q d m')
    (hQ0 : ∀ m', er_kp er_MS m0 m' → er_nz m' → (∀ v : Int, 0 ≤ v → v < 136 → (er_nk m' v ↔ er_near L (m0 90) v)) → ¬ er_near L (m0 90) 1 → Q 0 m') : er_SI K mi_M_augment [.inr 83] m0 Q := by
  have hCN := h
  obtain ⟨c1, c2, c3, c4, c5⟩ := hCN
  refine vc_M_augment (sp_M_reach h hf (fun m' k1 k2 k3 k4 => ?_))
  have hz1 := k2 1 (by omega) (by omega)
  refine ⟨⟨by omega, by omega⟩, fun hne => ?_, fun he => hQ0 m' k1 k2 k3 (fun z => by have : m' 96 1 = 1 := (k3 1 (by omega) (by omega)).mpr z; omega)⟩
  obtain ⟨es, hch, hpos⟩ := k4 (by show m' 96 1 = 1; omega)
  have e88 : m' 88 = m0 88 := funext fun q => k1 _ _ (by unfold er_MS; omega)
  have e90 : m' 90 = m0 90 := funext fun q => k1 _ _ (by unfold er_MS; omega)
  have loop2 : ∀ (d : Int), 1 ≤ d → d ≤ 1000000 → (∀ e ∈ es, d ≤ m0 90 e) → ∀ (ys : List Int) (x : Int) (m : er_M), er_chain L (m' 95) x ys → er_kp (fun c _ => c = 90) m' m → er_upl (m 90) ys d = er_upl (m0 90) es d → wp_M_augment_72 K d x m Q := by
    intro d hd1 hd2 hde ys
    induction ys with
    | nil =>
      intro x m hc hkm hu
      have hx : x = 0 := hc
      have hu' : m 90 = er_upl (m0 90) es d := hu
      obtain ⟨w1, w2⟩ := er_FO_way (d := d) hf (by omega) hch hde
      refine vc_M_augment_72 ⟨⟨by omega, by omega⟩, fun _ => ?_, fun z => absurd hx z⟩
      exact hQ1 m d hd1 hd2 ((k1.wk (fun c k z => Or.inl z)).tr (hkm.wk (fun c k z => Or.inr z))) (by rw [hu']; exact w1) (by rw [hu']; exact w2)
    | cons e ys ih =>
      intro x m hc hkm hu
      obtain ⟨b0, b1, b2, b3, b4, b5, b6, b7⟩ := hc
      have g95 : m 95 = m' 95 := funext fun q => hkm _ _ (by omega)
      have g88 : m 88 = m0 88 := by rw [← e88]; exact funext fun q => hkm _ _ (by omega)
      have hp := er_px_in b4 b5
      have hne := er_px_ne (e := e)
      refine vc_M_augment_72 ⟨⟨by omega, by omega⟩, fun z => absurd z b0, fun _ => ⟨b1, b2, ?_⟩⟩
      rw [g95, ← b3]
      refine ⟨b4, by omega, ?_⟩
      intro m7 e7
      have g95' : m7 95 x = e := by rw [e7, er_st_c (by decide), g95, b3]
      rw [g95']
      refine ⟨b4, by omega, ⟨by omega, by omega⟩, ?_⟩
      have fin : ∀ (y : Int) (m14 : er_M), y = er_px e → m14 = er_st m7 90 y (m7 90 y + d) → (0 ≤ m14 95 x) ∧ (m14 95 x < 760) ∧ wp_M_augment_72 K d (m14 88 (m14 95 x)) m14 Q := by
        intro y m14 hy e14
        subst hy
        have g14 : m14 90 = er_up (m 90) e d := by
          funext k
          rw [e14]
          unfold er_up
          by_cases hk1 : k = er_px e
          · rw [hk1, er_st_s, if_neg hne, if_pos rfl, e7, er_st_k hne]
          · rw [er_st_k hk1, e7]
            by_cases hk2 : k = e
            · rw [hk2, er_st_s, if_pos rfl]
            · rw [er_st_k hk2, if_neg hk2, if_neg hk1]
        have g8814 : m14 88 = m0 88 := by
          rw [← g88]
          funext q
          rw [e14, e7, er_st_c (by decide), er_st_c (by decide)]
        have g9514 : m14 95 x = e := by rw [e14, er_st_c (by decide)]; exact g95'
        have hkm14 : er_kp (fun c _ => c = 90) m' m14 := by
          rw [e14, e7]
          exact (hkm.tr (er_kp.st rfl)).tr (er_kp.st rfl)
        rw [g9514, g8814, (c4 e b4 b5).1]
        exact ⟨b4, by omega, ih _ m14 b7 hkm14 (by rw [g14]; exact hu)⟩
      have hpx : er_px e = e + 1 - 2 * (e % 2) := rfl
      refine ⟨fun hodd => ⟨by omega, by omega, fun m14 e14 => fin _ m14 (by omega) e14⟩, fun heven => ⟨by omega, by omega, fun m14 e14 => fin _ m14 (by omega) e14⟩⟩
  have loop1 : ∀ (ys : List Int) (x a : Int), er_chain L (m' 95) x ys → 1 ≤ a → a ≤ 1000000 → (∀ e ∈ ys, 0 < m0 90 e) → (∀ d, 1 ≤ d → d ≤ a → (∀ e ∈ ys, d ≤ m0 90 e) → wp_M_augment_72 K d 1 m' Q) → wp_M_augment_20 K a x m' Q := by
    intro ys
    induction ys with
    | nil =>
      intro x a hc ha1 ha2 hp hk2
      have hx : x = 0 := hc
      exact vc_M_augment_20 ⟨⟨by omega, by omega⟩, fun _ => hk2 a ha1 (Int.le_refl _) (fun e he => by simp at he), fun z => absurd hx z⟩
    | cons e ys ih =>
      intro x a hc ha1 ha2 hp hk2
      obtain ⟨b0, b1, b2, b3, b4, b5, b6, b7⟩ := hc
      have hr := er_rm_bd hf c3 b4 b5
      have hre := hp e List.mem_cons_self
      refine vc_M_augment_20 ⟨⟨by omega, by omega⟩, fun z => absurd z b0, fun _ => ⟨b1, b2, ?_⟩⟩
      rw [← b3, e90, e88, (c4 e b4 b5).1]
      refine ⟨b4, by omega, ⟨by omega, by omega⟩, ⟨by omega, by omega⟩, fun hle => ?_, fun hlt => ?_⟩
      · refine ih _ _ b7 ha1 ha2 (fun e' he' => hp e' (List.mem_cons_of_mem _ he')) (fun d hd1 hd2 hd3 => hk2 d hd1 (by omega) (fun e' he' => ?_))
        rcases List.mem_cons.mp he' with rfl | he'
        · omega
        · exact hd3 e' he'
      · refine ih _ _ b7 (by omega) (by omega) (fun e' he' => hp e' (List.mem_cons_of_mem _ he')) (fun d hd1 hd2 hd3 => hk2 d hd1 (by omega) (fun e' he' => ?_))
        rcases List.mem_cons.mp he' with rfl | he'
        · omega
        · exact hd3 e' he'
  exact loop1 es 1 100000 hch (by omega) (by omega) hpos (fun d hd1 hd2 hd3 => loop2 d hd1 (by omega) hd3 es 1 m' hch er_kp.rf (by rw [e90]))
theorem sp_M_augmentAll {x0 : Int} {Q : Int → er_M → Prop} (h : er_MF m0 L x0) (h0 : 0 ≤ x0) (hB : ∀ rm, er_FO L rm → er_exc L rm 0 ≤ 216)
    (hQ : ∀ m' x, er_kp er_MQ m0 m' → er_nz m' → er_max L (m' 90) x → x0 ≤ x → x ≤ 216 → (∀ v : Int, 0 ≤ v → v < 136 → (er_nk m' v ↔ er_near L (m' 90) v)) → Q (x - x0) m') : er_SI K mi_M_augmentAll [.inr 83] m0 Q := by
  obtain ⟨h1, h2, h3⟩ := h
  -- more wires: d came last
  have loop : ∀ (n : Nat) (y d : Int) (m : er_M), 217 - (y + d) < n → x0 ≤ y → 1 ≤ d → d ≤ 1000000 → er_kp er_MQ m0 m → er_FO L (m 90) → er_exc L (m 90) 0 = y + d → wp_M_augmentAll_7 K (y - x0) d m Q := by
    intro n
    induction n with
    | zero =>
      intro y d m hn hy hd hd2 hk hf hx
      have := hB _ hf
      omega
    | succ n ih =>
      intro y d m hn hy hd hd2 hk hf hx
      have hb := hB _ hf
      refine vc_M_augmentAll_7 ⟨⟨by omega, by omega⟩, fun z => by omega, fun _ => ?_⟩
      refine sp_M_augment (h1.kp hk) hf (fun m' d' a1 a2 a3 a4 a5 => ?_) (fun m' a1 a2 a3 a4 => ?_)
      · rw [show y - x0 + d = (y + d) - x0 by omega]
        exact ih (y + d) d' m' (by omega) (by omega) a1 a2 (hk.tr a3) a4 (by omega)
      · have e90 : m' 90 = m 90 := funext fun q => a1 _ _ (by unfold er_MS; omega)
        refine vc_M_augmentAll_7 ⟨by decide, fun _ => ?_, fun z => absurd z (by decide)⟩
        rw [show y - x0 + d = (y + d) - x0 by omega]
        exact hQ m' (y + d) (hk.tr (a1.wk (fun c k z => Or.inl z))) a2 (by rw [e90]; exact ⟨hf, a4, hx⟩) (by omega) (by omega) (by rw [e90]; exact a3)
  refine vc_M_augmentAll (sp_M_augment h1 h2 (fun m' d' a1 a2 a3 a4 a5 => ?_) (fun m' a1 a2 a3 a4 => ?_))
  · have := loop 218 x0 d' m' (by omega) (Int.le_refl _) a1 a2 a3 a4 (by omega)
    rwa [Int.sub_self] at this
  · have e90 : m' 90 = m0 90 := funext fun q => a1 _ _ (by unfold er_MS; omega)
    have hb := hB _ h2
    refine vc_M_augmentAll_7 ⟨by decide, fun _ => ?_, fun z => absurd z (by decide)⟩
    have := hQ m' x0 (a1.wk (fun c k z => Or.inl z)) a2 (by rw [e90]; exact ⟨h2, a4, h3⟩) (Int.le_refl _) (by omega) (by rw [e90]; exact a3)
    rwa [Int.sub_self] at this
end ERR
