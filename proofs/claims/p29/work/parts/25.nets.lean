/-! the class's network: the search, one wire more, all of them -/
theorem er_rm_bd {L : List er_Ed} {rm : Int → Int} (h : er_FO L rm) (hb : er_Bd L) {e : Int} (h0 : 0 ≤ e) (h1 : e < 2 * (L.length : Int)) : 0 ≤ rm e ∧ rm e ≤ 1000000 := by
  obtain ⟨g0, g1, g2, -⟩ := h.1 (e / 2).toNat (by omega)
  obtain ⟨_, _, _, _, c0, c1⟩ := hb (e / 2).toNat (by omega)
  rw [show (((e / 2).toNat : Nat) : Int) = e / 2 by omega] at g0 g1 g2
  rcases (by omega : e % 2 = 0 ∨ e % 2 = 1) with hp | hp
  · rw [show 2 * (e / 2) = e by omega] at g0 g1 g2
    omega
  · rw [show 2 * (e / 2) + 1 = e by omega] at g1 g2
    omega
theorem er_chain_src {L : List er_Ed} {by' : Int → Int} : ∀ (es : List Int) (x : Int), er_chain L by' x es → x ≠ 0 → ∃ e ∈ es, 0 ≤ e ∧ e < 2 * (L.length : Int) ∧ er_fr L e = 0 := by
  intro es
  induction es with
  | nil => intro x h hx; exact absurd h hx
  | cons e t ih =>
    intro x h hx
    obtain ⟨_, _, _, _, h1, h2, h3, h4⟩ := h
    by_cases hf : er_fr L e = 0
    · exact ⟨e, List.mem_cons_self, h1, h2, hf⟩
    · obtain ⟨e', g1, g2⟩ := ih _ h4 hf
      exact ⟨e', List.mem_cons_of_mem _ g1, g2⟩
/-- the marks are numbers of searches that were -/
def er_MK (n : Nat) (m : er_M) : Prop := 0 ≤ m n 10 ∧ ∀ v : Int, 0 ≤ v → v < 136 → 0 ≤ m (n + 6) v ∧ m (n + 6) v ≤ m n 10
/-- where the search writes -/
def er_NW (n : Nat) : Nat → Int → Prop := fun c k => (n + 6 ≤ c ∧ c ≤ n + 8) ∨ (c = n ∧ k = 10)
/-- where a wire writes -/
def er_NP (n : Nat) : Nat → Int → Prop := fun c k => (n + 6 ≤ c ∧ c ≤ n + 8) ∨ c = n + 4 ∨ (c = n ∧ k = 10)
theorem er_CN.kp {n : Nat} {m m' : er_M} {L : List er_Ed} (h : er_CN n m L) (hk : er_kp (er_NP n) m m') : er_CN n m' L := by
  have c1 : m' (n + 1) = m (n + 1) := funext fun q => hk _ _ (by unfold er_NP; omega)
  have c2 : m' (n + 2) = m (n + 2) := funext fun q => hk _ _ (by unfold er_NP; omega)
  have c3 : m' (n + 3) = m (n + 3) := funext fun q => hk _ _ (by unfold er_NP; omega)
  have c8 : m' n 8 = m n 8 := hk _ _ (by unfold er_NP; omega)
  unfold er_CN at h ⊢
  rw [c1, c2, c3, c8]
  exact h
theorem er_NW_P {n c : Nat} {k : Int} (h : er_NW n c k) : er_NP n c k := by unfold er_NW at h; unfold er_NP; omega
/-- what is marked by the latest search -/
def er_mk (n : Nat) (m : er_M) (v : Int) : Prop := m (n + 6) v = m n 10
section ERS
variable {K : er_K} {n : Nat} {m0 : er_M} {L : List er_Ed}
/-- within the search -/
def er_J (n : Nat) (m0 : er_M) (L : List er_Ed) (m : er_M) (cnt i x : Int) : Prop := er_kp (er_NW n) m0 m ∧ er_MK n m ∧ m n 10 = m0 n 10 + 1 ∧ er_BI L (m0 (n + 4)) (er_mk n m) (m (n + 8)) (m (n + 7)) cnt i x ∧ ¬ er_mk n m 1
theorem sp_N_findWay {Q : Int → er_M → Prop} (hn : er_isN n) (h : er_CN n m0 L) (hf : er_FO L (m0 (n + 4))) (hk : er_MK n m0) (hs : m0 n 10 < 2000000000)
    (hQ1 : ∀ m', er_kp (er_NW n) m0 m' → er_MK n m' → m' n 10 = m0 n 10 + 1 → (∃ es, er_chain L (m' (n + 7)) 1 es ∧ (es.length : Int) ≤ 136 ∧ ∀ e ∈ es, 0 < m0 (n + 4) e) → Q 1 m')
    (hQ0 : ∀ m', er_kp (er_NW n) m0 m' → er_MK n m' → m' n 10 = m0 n 10 + 1 → (∀ v : Int, 0 ≤ v → v < 136 → (er_mk n m' v ↔ er_near L (m0 (n + 4)) v)) → ¬ er_near L (m0 (n + 4)) 1 → Q 0 m') : er_SI K mi_N_findWay [.inr n] m0 Q := by
  have hCN := h
  obtain ⟨c1, c2, c3, c4, c5⟩ := hCN
  have keep : ∀ m, er_kp (er_NW n) m0 m → m (n + 1) = m0 (n + 1) ∧ m (n + 2) = m0 (n + 2) ∧ m (n + 3) = m0 (n + 3) ∧ m (n + 4) = m0 (n + 4) := fun m hm =>
    ⟨funext fun q => hm _ _ (by unfold er_NW; omega), funext fun q => hm _ _ (by unfold er_NW; omega), funext fun q => hm _ _ (by unfold er_NW; omega), funext fun q => hm _ _ (by unfold er_NW; omega)⟩
  have inner : ∀ i : Int, (∀ (cnt : Int) (m : er_M), er_J n m0 L m cnt (i + 1) (2 * (L.length : Int) - 1) → wp_N_findWay_31 K n cnt (i + 1) m Q) → ∀ (d : Nat) (x t cnt : Int) (m : er_M), x < (d : Int) - 1 → -1 ≤ x → x < 2 * (L.length : Int) → 0 ≤ t → t + x ≤ 745 → i < cnt → (0 ≤ x → er_fr L x = m (n + 8) i) → er_J n m0 L m cnt i x → wp_N_findWay_58 K n cnt i x t m Q := by
    intro i hnext d
    induction d with
    | zero => intro x t cnt m hx hx1; omega
    | succ d ih =>
      intro x t cnt m hxd hx1 hx2 ht htx hi hfx hJ
      obtain ⟨j1, j2, j3, j4, j5⟩ := hJ
      obtain ⟨k1, k2, k3, k4⟩ := keep m j1
      refine vc_N_findWay_58 hn ⟨⟨by omega, by omega⟩, fun hx => hnext cnt m ⟨j1, j2, j3, er_BI_through j4 hi (by omega) (Int.le_refl _), j5⟩, fun hx => ⟨⟨by omega, by omega⟩, fun _ => by omega, fun _ => ⟨by omega, by omega, ?_⟩⟩⟩
      have hr := er_rm_bd hf c3 (e := x) (by omega) hx2
      have hto := c4 x (by omega) hx2
      obtain ⟨f1, f2, f3, f4⟩ := er_fr_bd c3 (e := x) (by omega) hx2
      have hlast := c5.2 x (by omega) hx2
      have nxb : -1 ≤ m0 (n + 2) x ∧ m0 (n + 2) x < x := by
        rcases hlast with ⟨z, _⟩ | ⟨z1, z2, _⟩ <;> omega
      -- behind this edge
      have tail : ∀ (cnt' : Int) (m' : er_M), i < cnt' → er_fr L x = m' (n + 8) i → er_J n m0 L m' cnt' i (x - 1) → wp_N_findWay_147 K n cnt' i x t m' Q := by
        intro cnt' m' hi' hfr hJ'
        obtain ⟨a1, a2, a3, a4, a5⟩ := hJ'
        obtain ⟨b1, b2, b3, b4⟩ := keep m' a1
        refine vc_N_findWay_147 hn ⟨by omega, by omega, ?_⟩
        rw [b2]
        refine ih _ _ cnt' m' (by omega) nxb.1 (by omega) (by omega) (by omega) hi' (fun hx0 => ?_) ⟨a1, a2, a3, er_BI_next a4 (by rw [← hfr]; exact hlast) (by decide), a5⟩
        rcases hlast with ⟨z, _⟩ | ⟨_, _, z, _⟩
        · omega
        · rw [z, hfr]
      have hfr := hfx (by omega)
      rw [k4, k3, hto]
      refine ⟨⟨by omega, by omega⟩, fun hle => tail cnt m hi hfr ⟨j1, j2, j3, er_BI_skip j4 (Or.inl hle), j5⟩, fun hgt => ⟨f3, f4, ?_⟩⟩
      have hm := j2.2 _ f3 f4
      refine ⟨⟨by omega, by have := hm.2; omega⟩, ⟨by omega, by omega⟩, fun he => tail cnt m hi hfr ⟨j1, j2, j3, er_BI_skip j4 (Or.inr he), j5⟩, fun hne => ?_⟩
      have hroom := er_BI_room j4 f3 f4 hne
      have hc1 := j4.1
      refine ⟨⟨by omega, by omega⟩, fun _ => by omega, fun _ => ?_⟩
      intro m16 e16 m17 e17
      have hkp : er_kp (er_NW n) m m17 := by
        rw [e17, e16]
        exact (er_kp.st (by unfold er_NW; omega)).tr (er_kp.st (by unfold er_NW; omega))
      have g10 : m17 n 10 = m n 10 := by rw [e17, e16, er_st_c (by omega), er_st_c (by omega)]
      have g6 : ∀ v, m17 (n + 6) v = if v = er_to L x then m n 10 else m (n + 6) v := by
        intro v
        rw [e17, e16, er_st_c (by omega)]
        unfold er_st
        simp
      have g7 : ∀ v, m17 (n + 7) v = if v = er_to L x then x else m (n + 7) v := by
        intro v
        rw [e17, e16]
        unfold er_st
        simp
      have g8 : ∀ v, m17 (n + 8) v = m (n + 8) v := by
        intro v
        rw [e17, e16, er_st_c (by omega), er_st_c (by omega)]
      have hmk : ∀ v, er_mk n m17 v ↔ er_mk n m v ∨ v = er_to L x := by
        intro v
        unfold er_mk
        rw [g6, g10]
        by_cases hv : v = er_to L x
        · rw [if_pos hv]; exact ⟨fun _ => Or.inr hv, fun _ => rfl⟩
        · rw [if_neg hv]; exact ⟨Or.inl, fun z => z.resolve_right hv⟩
      have hMK : er_MK n m17 := by
        refine ⟨by rw [g10]; exact j2.1, fun v v0 v1 => ?_⟩
        rw [g6, g10]
        split
        · exact ⟨j2.1, Int.le_refl _⟩
        · exact j2.2 v v0 v1
      refine ⟨⟨by omega, by omega⟩, fun hne1 => ⟨by have := j4.1; omega, by omega, ?_⟩, fun he1 => ?_⟩
      · intro m22 e22
        have w8 : ∀ v, m22 (n + 8) v = if v = cnt then er_to L x else m (n + 8) v := by
          intro v
          rw [e22]
          unfold er_st
          simp [g8]
        have w7 : m22 (n + 7) = m17 (n + 7) := by funext v; rw [e22, er_st_c (by omega)]
        have w6 : m22 (n + 6) = m17 (n + 6) := by funext v; rw [e22, er_st_c (by omega)]
        have w10 : m22 n 10 = m17 n 10 := by rw [e22, er_st_c (by omega)]
        have hmk2 : ∀ v, er_mk n m22 v ↔ er_mk n m v ∨ v = er_to L x := by
          intro v
          rw [← hmk]
          unfold er_mk
          rw [w6, w10]
        refine tail (cnt + 1) m22 (by omega) (by rw [w8, if_neg (by omega)]; exact hfr) ⟨(j1.tr hkp).tr (by rw [e22]; exact er_kp.st (by unfold er_NW; omega)), by unfold er_MK; rw [w6, w10]; exact hMK, by rw [w10, g10, j3], ?_, ?_⟩
        · refine er_BI_visit j4 hi (by omega) hx2 hfr rfl hgt f3 f4 hne hmk2 (by rw [w8, if_pos rfl]) (fun j hj => by rw [w8, if_neg hj]) (by rw [w7, g7, if_pos rfl]) (fun v hv => by rw [w7, g7, if_neg hv])
        · rw [hmk2]
          exact fun z => z.elim j5 (fun z => hne1 z.symm)
      · refine hQ1 m17 (j1.tr hkp) hMK (by rw [g10, j3]) ?_
        have hBI := er_BI_visit (by2 := m17 (n + 7)) (q2 := fun j => if j = cnt then er_to L x else m (n + 8) j) j4 hi (by omega) hx2 hfr rfl hgt f3 f4 hne hmk (if_pos rfl) (fun j hj => if_neg hj) (by rw [g7, if_pos rfl]) (fun v hv => by rw [g7, if_neg hv])
        obtain ⟨es, w1, w2, w3⟩ := er_BI_way hBI (cnt.toNat + 1) cnt (by omega) (by have := j4.1; omega) (by omega)
        rw [if_pos rfl, he1] at w1
        exact ⟨es, w1, by omega, w3⟩
  have outer : ∀ (d : Nat) (i cnt : Int) (m : er_M), 136 - i < d → 0 ≤ i → er_J n m0 L m cnt i (2 * (L.length : Int) - 1) → wp_N_findWay_31 K n cnt i m Q := by
    intro d
    induction d with
    | zero =>
      intro i cnt m hd h0 hJ
      have := er_BI_cnt hJ.2.2.2.1
      have := hJ.2.2.2.1.2.2.1
      omega
    | succ d ih =>
      intro i cnt m hd h0 hJ
      obtain ⟨j1, j2, j3, j4, j5⟩ := hJ
      obtain ⟨k1, k2, k3, k4⟩ := keep m j1
      have hc := er_BI_cnt j4
      have hic := j4.2.2.1
      refine vc_N_findWay_31 hn ⟨⟨by omega, by omega⟩, ⟨by omega, by omega⟩, fun hge => ?_, fun hlt => ⟨fun _ => by omega, fun _ => ⟨by omega, by omega, ?_⟩⟩⟩
      · have hd := er_BI_done j4 (by omega) c3
        exact hQ0 m j1 j2 j3 hd (fun z => j5 ((hd 1 (by omega) (by omega)).mpr z))
      · obtain ⟨q1, q2, q3⟩ := j4.2.2.2.2.2.1 i h0 hlt
        refine ⟨q1, q2, ?_⟩
        rw [k1]
        have hl := c5.1 _ q1 q2
        have hb : -1 ≤ m0 (n + 1) (m (n + 8) i) ∧ m0 (n + 1) (m (n + 8) i) < 2 * (L.length : Int) := by
          rcases hl with ⟨z, _⟩ | ⟨z1, z2, _⟩ <;> omega
        refine inner i (fun cnt' m' hJ' => ih (i + 1) cnt' m' (by omega) (by omega) hJ') 748 _ 0 cnt m (by omega) hb.1 hb.2 (by omega) (by omega) hlt (fun hx0 => ?_) ⟨j1, j2, j3, er_BI_next j4 hl (by decide), j5⟩
        rcases hl with ⟨z, _⟩ | ⟨_, _, z, _⟩
        · omega
        · exact z
  refine vc_N_findWay hn (fun m1 e1 m2 e2 m3 e3 => outer 137 0 1 m3 (by omega) (by omega) ?_)
  have g10 : m3 n 10 = m0 n 10 + 1 := by rw [e3, e2, e1, er_st_c (by omega), er_st_c (by omega), er_st_s]
  have g6 : ∀ v, m3 (n + 6) v = if v = 0 then m0 n 10 + 1 else m0 (n + 6) v := by
    intro v
    rw [e3, e2, e1, er_st_c (by omega)]
    unfold er_st
    simp
  have g8 : m3 (n + 8) 0 = 0 := by rw [e3, er_st_s]
  refine ⟨?_, ⟨by rw [g10]; have := hk.1; omega, fun v v0 v1 => ?_⟩, g10, er_BI_init (fun v v0 v1 => ?_) g8 (Int.le_refl _), ?_⟩
  · rw [e3, e2, e1]
    exact ((er_kp.st (by unfold er_NW; omega)).tr (er_kp.st (by unfold er_NW; omega))).tr (er_kp.st (by unfold er_NW; omega))
  · have h1 := hk.1
    have h2 := hk.2 v v0 v1
    rw [g6, g10]
    split <;> omega
  · have h2 := hk.2 v v0 v1
    unfold er_mk
    rw [g6, g10]
    by_cases hv : v = 0
    · rw [if_pos hv]; exact ⟨fun _ => hv, fun _ => rfl⟩
    · rw [if_neg hv]; exact ⟨fun z => by omega, fun z => absurd z hv⟩
  · have h2 := hk.2 1 (by omega) (by omega)
    unfold er_mk
    rw [g6, g10, if_neg (by decide)]
    omega
/-- one wire more -/
theorem sp_N_push {Q : Int → er_M → Prop} (hn : er_isN n) (h : er_CN n m0 L) (hf : er_FO L (m0 (n + 4))) (hk : er_MK n m0) (hs : m0 n 10 < 2000000000)
    (hQ1 : ∀ m' d, 1 ≤ d → d ≤ 1000000 → (∃ e : Int, 0 ≤ e ∧ e < 2 * (L.length : Int) ∧ er_fr L e = 0 ∧ d ≤ m0 (n + 4) e) → er_kp (er_NP n) m0 m' → er_MK n m' → m' n 10 = m0 n 10 + 1 → er_FO L (m' (n + 4)) → er_exc L (m' (n + 4)) 0 = er_exc L (m0 (n + 4)) 0 + d → Q d m')
    (hQ0 : ∀ m', er_kp (er_NW n) m0 m' → er_MK n m' → m' n 10 = m0 n 10 + 1 → (∀ v : Int, 0 ≤ v → v < 136 → (er_mk n m' v ↔ er_near L (m0 (n + 4)) v)) → ¬ er_near L (m0 (n + 4)) 1 → Q 0 m') : er_SI K mi_N_push [.inr n] m0 Q := by
  have hCN := h
  obtain ⟨c1, c2, c3, c4, c5⟩ := hCN
  refine vc_N_push hn (sp_N_findWay hn h hf hk hs (fun m' k1 k2 k3 hes => ?_) (fun m' k1 k2 k3 k4 k5 => ?_))
  · obtain ⟨es, hch, hlen, hpos⟩ := hes
    have e3 : m' (n + 3) = m0 (n + 3) := funext fun q => k1 _ _ (by unfold er_NW; omega)
    have e4 : m' (n + 4) = m0 (n + 4) := funext fun q => k1 _ _ (by unfold er_NW; omega)
    refine ⟨by decide, fun _ => ?_, fun z => absurd z (by decide)⟩
    -- the second walk back
    have loop2 : ∀ (d : Int), 1 ≤ d → d ≤ 1000000 → (∀ e ∈ es, d ≤ m0 (n + 4) e) → ∀ (ys : List Int) (x t : Int) (m : er_M), er_chain L (m' (n + 7)) x ys → 0 ≤ t → t + ys.length ≤ 136 → er_kp (fun c _ => c = n + 4) m' m → er_upl (m (n + 4)) ys d = er_upl (m0 (n + 4)) es d → wp_N_push_67 K n d x t m Q := by
      intro d hd1 hd2 hde ys
      have fin : ∀ m, er_kp (fun c _ => c = n + 4) m' m → m (n + 4) = er_upl (m0 (n + 4)) es d → Q d m := by
        intro m hkm hm
        obtain ⟨w1, w2⟩ := er_FO_way (d := d) hf (by omega) hch hde
        refine hQ1 m d hd1 hd2 (by obtain ⟨e, he, h0, h1, hf0⟩ := er_chain_src es 1 hch (by decide); exact ⟨e, h0, h1, hf0, hde e he⟩) ((k1.wk (fun c k z => er_NW_P z)).tr (hkm.wk (fun c k z => by unfold er_NP; omega))) ?_ ?_ (by rw [hm]; exact w1) (by rw [hm]; exact w2)
        · have g6 : m (n + 6) = m' (n + 6) := funext fun q => hkm _ _ (by omega)
          have g10 : m n 10 = m' n 10 := hkm _ _ (by omega)
          unfold er_MK
          rw [g6, g10]
          exact k2
        · rw [← k3]
          exact hkm _ _ (by omega)
      induction ys with
      | nil =>
        intro x t m hc ht htl hkm hu
        have hx : x = 0 := hc
        simp only [List.length_nil] at htl
        have hu' : m (n + 4) = er_upl (m0 (n + 4)) es d := hu
        exact vc_N_push_67 hn ⟨⟨by omega, by omega⟩, fun _ => fin m hkm hu', fun _ => ⟨⟨by omega, by omega⟩, fun _ => fin m hkm hu', fun z => absurd hx z⟩⟩
      | cons e ys ih =>
        intro x t m hc ht htl hkm hu
        obtain ⟨b0, b1, b2, b3, b4, b5, b6, b7⟩ := hc
        simp only [List.length_cons] at htl
        have g7 : m (n + 7) = m' (n + 7) := funext fun q => hkm _ _ (by omega)
        have g3 : m (n + 3) = m0 (n + 3) := by rw [← e3]; exact funext fun q => hkm _ _ (by omega)
        have hp := er_px_in b4 b5
        refine vc_N_push_67 hn ⟨⟨by omega, by omega⟩, fun _ => by omega, fun _ => ⟨⟨by omega, by omega⟩, fun z => absurd z b0, fun _ => ⟨b1, b2, ?_⟩⟩⟩
        rw [g7, ← b3]
        refine ⟨b4, by omega, ?_⟩
        intro m9 e9
        refine ⟨b4, by omega, ?_⟩
        have hpx : e + 1 - 2 * (e % 2) = er_px e := rfl
        rw [hpx]
        refine ⟨hp.1, by omega, ?_⟩
        intro m14 e14
        have g14 : m14 (n + 4) = er_up (m (n + 4)) e d := by
          funext k
          rw [e14]
          unfold er_up
          have hne := er_px_ne (e := e)
          by_cases hk1 : k = er_px e
          · rw [hk1, er_st_s, if_neg hne, if_pos rfl, e9, er_st_k hne]
          · rw [er_st_k hk1, e9]
            by_cases hk2 : k = e
            · rw [hk2, er_st_s, if_pos rfl]
            · rw [er_st_k hk2, if_neg hk2, if_neg hk1]
        have g143 : m14 (n + 3) = m0 (n + 3) := by
          rw [← g3]
          funext q
          rw [e14, e9, er_st_c (by omega), er_st_c (by omega)]
        have hkm14 : er_kp (fun c _ => c = n + 4) m' m14 := by
          rw [e14, e9]
          exact (hkm.tr (er_kp.st rfl)).tr (er_kp.st rfl)
        rw [g143, c4 _ hp.1 hp.2, er_to_px]
        exact ih _ (t + 1) m14 b7 (by omega) (by omega) hkm14 (by rw [g14]; exact hu)
    -- the first walk back
    have loop1 : ∀ (ys : List Int) (x a t : Int), er_chain L (m' (n + 7)) x ys → 0 ≤ t → t + ys.length ≤ 136 → 1 ≤ a → a ≤ 1000000 → (∀ e ∈ ys, 0 < m0 (n + 4) e) → (∀ d, 1 ≤ d → d ≤ a → (∀ e ∈ ys, d ≤ m0 (n + 4) e) → wp_N_push_67 K n d 1 0 m' Q) → wp_N_push_16 K n a x t m' Q := by
      intro ys
      induction ys with
      | nil =>
        intro x a t hc ht htl ha1 ha2 hp hk2
        have hx : x = 0 := hc
        simp only [List.length_nil] at htl
        have w := hk2 a ha1 (Int.le_refl _) (fun e he => by simp at he)
        exact vc_N_push_16 hn ⟨⟨by omega, by omega⟩, fun _ => w, fun _ => ⟨⟨by omega, by omega⟩, fun _ => w, fun z => absurd hx z⟩⟩
      | cons e ys ih =>
        intro x a t hc ht htl ha1 ha2 hp hk2
        obtain ⟨b0, b1, b2, b3, b4, b5, b6, b7⟩ := hc
        simp only [List.length_cons] at htl
        have hpx := er_px_in b4 b5
        have hr := er_rm_bd hf c3 b4 b5
        have hre := hp e List.mem_cons_self
        refine vc_N_push_16 hn ⟨⟨by omega, by omega⟩, fun _ => by omega, fun _ => ⟨⟨by omega, by omega⟩, fun z => absurd z b0, fun _ => ⟨b1, b2, ?_⟩⟩⟩
        rw [← b3, e4, e3]
        have hpp : e + 1 - 2 * (e % 2) = er_px e := rfl
        rw [hpp, c4 _ hpx.1 hpx.2, er_to_px]
        refine ⟨b4, by omega, ⟨by omega, by omega⟩, ⟨by omega, by omega⟩, b4, by omega, hpx.1, by omega, ?_⟩
        refine ih _ _ _ b7 (by omega) (by omega) (by omega) (by omega) (fun e' he' => hp e' (List.mem_cons_of_mem _ he')) (fun d hd1 hd2 hd3 => hk2 d hd1 (by omega) (fun e' he' => ?_))
        rcases List.mem_cons.mp he' with rfl | he'
        · omega
        · exact hd3 e' he'
    refine loop1 es 1 1000000 0 hch (by omega) (by omega) (by omega) (by omega) hpos (fun d hd1 hd2 hd3 => ?_)
    exact loop2 d hd1 hd2 hd3 es 1 0 m' hch (by omega) (by omega) er_kp.rf (by rw [e4])
  · exact ⟨by decide, fun z => absurd rfl z, fun _ => hQ0 m' k1 k2 k3 k4 k5⟩
/-- all wires that go -/
theorem sp_N_pushAll {Q : Int → er_M → Prop} (hn : er_isN n) (h : er_CN n m0 L) (hf : er_FO L (m0 (n + 4))) (hk : er_MK n m0) (hs : m0 n 10 < 1999999000) (hx : er_exc L (m0 (n + 4)) 0 = 0) (hB : ∀ rm, er_FO L rm → er_exc L rm 0 ≤ 216)
    (hQ : ∀ m' x, er_kp (er_NP n) m0 m' → er_MK n m' → m' n 10 ≤ m0 n 10 + 217 → m0 n 10 ≤ m' n 10 → er_max L (m' (n + 4)) x → 0 ≤ x → x ≤ 216 → (∀ v : Int, 0 ≤ v → v < 136 → (er_mk n m' v ↔ er_near L (m' (n + 4)) v)) → Q x m') : er_SI K mi_N_pushAll [.inr n] m0 Q := by
  have loop : ∀ (d : Nat) (i x : Int) (m : er_M), i + d = 217 → 0 ≤ i → i ≤ x → er_kp (er_NP n) m0 m → er_MK n m → m n 10 = m0 n 10 + i → er_FO L (m (n + 4)) → er_exc L (m (n + 4)) 0 = x → wp_N_pushAll_4 K n x i m Q := by
    intro d
    induction d with
    | zero =>
      intro i x m hi h0 hix hkp hmk h10 hfo hex
      have := hB _ hfo
      omega
    | succ d ih =>
      intro i x m hi h0 hix hkp hmk h10 hfo hex
      have hb := hB _ hfo
      refine vc_N_pushAll_4 hn ⟨⟨by omega, by omega⟩, fun _ => by omega, fun _ => ?_⟩
      refine sp_N_push hn (h.kp hkp) hfo hmk (by omega) (fun m' a ha1 ha2 _ k1 k2 k3 k4 k5 => ?_) (fun m' k1 k2 k3 k4 k5 => ?_)
      · refine ⟨⟨by omega, by omega⟩, fun _ => ih (i + 1) (x + a) m' (by omega) (by omega) (by omega) (hkp.tr k1) k2 (by omega) k4 (by omega), fun z => by omega⟩
      · refine ⟨by decide, fun z => absurd rfl z, fun _ => ?_⟩
        have e4 : m' (n + 4) = m (n + 4) := funext fun q => k1 _ _ (by unfold er_NW; omega)
        refine hQ m' x (hkp.tr (k1.wk (fun c k z => er_NW_P z))) k2 (by omega) (by omega) (by rw [e4]; exact ⟨hfo, k5, hex⟩) (by omega) (by omega) (by rw [e4]; exact k4)
  exact vc_N_pushAll hn (loop 217 0 0 m0 (by omega) (by omega) (by omega) er_kp.rf hk (by omega) hf hx)
end ERS
