/-! the class's layering: one layer -/
theorem er_opn_01 (b : er_Bo) (f : Int → Int) (j : Int) : er_opn b f j = 0 ∨ er_opn b f j = 1 := by
  unfold er_opn
  split
  · exact Or.inr rfl
  · exact Or.inl rfl
theorem er_on_eq (b : er_Bo) (f : Int → Int) (p : Nat) (l j : Int) : er_on b f p l j = if er_bp b p = -1 then (if j = p then l else f j) else (if j = er_bp b p then l else if j = p then l else f j) := by
  unfold er_on
  split <;> rfl
theorem er_on_at {b : er_Bo} {f g : Int → Int} {p : Nat} {l j : Int} (h : f j = g j) : er_on b f p l j = er_on b g p l j := by
  rw [er_on_eq, er_on_eq, h]
theorem er_on_p {b : er_Bo} {f : Int → Int} {p : Nat} {l : Int} : er_on b f p l (p : Int) = l := by
  rw [er_on_eq]
  split
  · rw [if_pos rfl]
  · split
    · rfl
    · rw [if_pos rfl]
theorem er_on_q {b : er_Bo} {f : Int → Int} {p : Nat} {l : Int} (h : er_bp b p ≠ -1) : er_on b f p l (er_bp b p) = l := by
  unfold er_on
  rw [if_neg h, er_u_s]
theorem er_on_or (b : er_Bo) (f : Int → Int) (p : Nat) (l j : Int) : er_on b f p l j = l ∨ er_on b f p l j = f j := by
  rw [er_on_eq]
  split
  · split
    · exact Or.inl rfl
    · exact Or.inr rfl
  · split
    · exact Or.inl rfl
    · split
      · exact Or.inl rfl
      · exact Or.inr rfl
theorem er_on_l {b : er_Bo} {f : Int → Int} {p : Nat} {l j : Int} (h : er_on b f p l j = l) : j = p ∨ (er_bp b p ≠ -1 ∧ j = er_bp b p) ∨ f j = l := by
  by_cases h1 : er_bp b p = -1
  · unfold er_on at h
    rw [if_pos h1] at h
    by_cases h2 : j = p
    · exact Or.inl h2
    · rw [er_u_n h2] at h; exact Or.inr (Or.inr h)
  · unfold er_on at h
    rw [if_neg h1] at h
    by_cases h3 : j = er_bp b p
    · exact Or.inr (Or.inl ⟨h1, h3⟩)
    · rw [er_u_n h3] at h
      by_cases h2 : j = p
      · exact Or.inl h2
      · rw [er_u_n h2] at h; exact Or.inr (Or.inr h)
def er_YF (y : Nat) : Nat → Int → Prop := fun c k => (y + 2 ≤ c ∧ c ≤ y + 4) ∨ (53 ≤ c ∧ c ≤ 60) ∨ (c = 52 ∧ (k = 8 ∨ k = 9 ∨ k = 10))
/-- what was tried on this layer -/
def er_TI (b : er_Bo) (l : Int) (seen : List Nat) (f g : Int → Int) : Prop := (∀ j : Int, 0 ≤ j → j < 36 → 0 ≤ g j ∧ g j ≤ l) ∧ (∀ j : Int, 0 ≤ j → j < 36 → g j = l → j.toNat ∈ seen ∨ (0 ≤ er_bp b j ∧ (er_bp b j).toNat ∈ seen)) ∧ ∀ x ∈ seen, er_bk b x = 1 → f x ≠ 0 ∨ (g x = l ∧ (er_bp b x ≠ -1 → g (er_bp b x) = l))
theorem er_TI_skip {b : er_Bo} {l : Int} {seen : List Nat} {f g : Int → Int} {p : Nat} (h : er_TI b l seen f g) (hp : er_bk b p = 1 → f p ≠ 0 ∨ (g p = l ∧ (er_bp b p ≠ -1 → g (er_bp b p) = l))) : er_TI b l (seen ++ [p]) f g := by
  refine ⟨h.1, fun j j0 j1 hj => ?_, fun x hx => ?_⟩
  · rcases h.2.1 j j0 j1 hj with z | z
    · exact Or.inl (List.mem_append_left _ z)
    · exact Or.inr ⟨z.1, List.mem_append_left _ z.2⟩
  · rcases List.mem_append.mp hx with z | z
    · exact h.2.2 x z
    · rw [List.mem_singleton.mp z]; exact hp
theorem er_TI_try {b : er_Bo} {l : Int} {seen : List Nat} {f f' g g' : Int → Int} {p : Nat} (hv : er_BV b) (hp : p < 36) (hl : 0 ≤ l) (hg : ∀ j : Int, 0 ≤ j → j < 36 → g' j = er_on b g p l j) (hf : ∀ j : Int, 0 ≤ j → j < 36 → f j ≠ 0 → f' j ≠ 0) (hs36 : ∀ x ∈ seen, x < 36) (h : er_TI b l seen f g) : er_TI b l (seen ++ [p]) f' g' := by
  have hP := hv.2.2.2.2.2.2.2.2.2.2.1
  refine ⟨fun j j0 j1 => ?_, fun j j0 j1 hj => ?_, fun x hx hk => ?_⟩
  · rw [hg j j0 j1]
    have := h.1 j j0 j1
    rcases er_on_or b g p l j with z | z <;> rw [z]
    · exact ⟨hl, Int.le_refl _⟩
    · exact this
  · rw [hg j j0 j1] at hj
    rcases er_on_l hj with z | ⟨z1, z2⟩ | z
    · exact Or.inl (List.mem_append_right _ (List.mem_singleton.mpr (by omega)))
    · refine Or.inr ?_
      rcases hP p (by omega) (by omega) with y | y
      · exact absurd y z1
      · rw [z2, y.2.2.1]
        exact ⟨by omega, List.mem_append_right _ (List.mem_singleton.mpr (by omega))⟩
    · rcases h.2.1 j j0 j1 z with y | y
      · exact Or.inl (List.mem_append_left _ y)
      · exact Or.inr ⟨y.1, List.mem_append_left _ y.2⟩
  · have hgl : ∀ j : Int, 0 ≤ j → j < 36 → g j = l → g' j = l := fun j j0 j1 hj => by
      rw [hg j j0 j1]
      rcases er_on_or b g p l j with z | z <;> rw [z]
      exact hj
    rcases List.mem_append.mp hx with z | z
    · have hx36 := hs36 x z
      rcases h.2.2 x z hk with y | y
      · exact Or.inl (hf x (by omega) (by omega) y)
      · refine Or.inr ⟨hgl x (by omega) (by omega) y.1, fun hne => ?_⟩
        rcases hP x (by omega) (by omega) with w | w
        · exact absurd w hne
        · exact hgl _ w.1 w.2.1 (y.2 hne)
    · have e := List.mem_singleton.mp z
      subst e
      refine Or.inr ⟨by rw [hg x (by omega) (by omega), er_on_p], fun hne => ?_⟩
      rcases hP x (by omega) (by omega) with w | w
      · exact absurd w hne
      · rw [hg _ w.1 w.2.1, er_on_q hne]
section ERL
variable {K : er_K} {y : Nat} {m : er_M}
theorem sp_Y_fill {b : er_Bo} {f0 : Int → Int} {seq : List Nat} {l : Int} {Q : Int → er_M → Prop} (hy : er_isY y) (hv : er_BV b) (hb : er_CB 2 m b) (ho : er_ol y m seq) (hs36 : ∀ p ∈ seq, p < 36) (hsn : seq.Nodup) (hsl : seq.length ≤ 36) (hf : ∀ j : Int, 0 ≤ j → j < 36 → m (y + 4) j = f0 j) (hf0 : ∀ j : Int, 0 ≤ j → j < 36 → 0 ≤ f0 j ∧ f0 j ≤ 36) (hLI : er_LI b f0) (hg : ∀ j : Int, 0 ≤ j → j < 36 → 0 ≤ m (y + 2) j ∧ m (y + 2) j < l) (hl : 1 ≤ l ∧ l ≤ 36) (hk : er_MK 52 m) (hs : m 52 10 < 1999900000)
    (hQ : ∀ m', (∀ j : Int, 0 ≤ j → j < 36 → m' (y + 4) j = (er_put b (er_opn b f0) l seq [] f0 []).1 j) → (∀ j : Int, 0 ≤ j → j < 36 → 0 ≤ m' (y + 2) j ∧ m' (y + 2) j ≤ l) → er_MK 52 m' → m' 52 10 ≤ m 52 10 + 72 → m 52 10 ≤ m' 52 10 → er_kp (er_YF y) m m' → Q ((er_put b (er_opn b f0) l seq [] f0 []).2.length : Int) m') : er_SI K mi_Y_fill [.inr y, .inl l, .inr 2, .inr 52] m Q := by
  have hn52 : er_isN 52 := Or.inr rfl
  have yc := er_isY_c hy
  have hop := fun j (_ : 0 ≤ j) (_ : j < (36 : Int)) => er_opn_01 b f0 j
  have hbo := er_BO_of hv hop
  have hP := hv.2.2.2.2.2.2.2.2.2.2.1
  -- the pins in order
  have walk : ∀ (t seen : List Nat) (f : Int → Int) (P : List Nat) (m1 : er_M), seen ++ t = seq → er_put b (er_opn b f0) l t seen f P = er_put b (er_opn b f0) l seq [] f0 [] → er_PI2 b f0 l seen f P → er_TI b l seen f (m1 (y + 2)) → (∀ j : Int, 0 ≤ j → j < 36 → m1 (y + 4) j = f j) → er_CN 52 m1 (er_NL b (er_opn b f0) P) → er_FO (er_NL b (er_opn b f0) P) (m1 56) → er_exc (er_NL b (er_opn b f0) P) (m1 56) 0 = (P.length : Int) → er_MK 52 m1 → m1 52 10 ≤ m 52 10 + 2 * (seen.length : Int) → m 52 10 ≤ m1 52 10 → er_kp (er_YF y) m m1 → wp_Y_fill_64 K y l (P.length : Int) (seen.length : Int) m1 Q := by
    intro t
    induction t with
    | nil =>
      intro seen f P m1 hst hput hpi hti hm4 hc hfo hx hmk hc1 hc2 hkp
      rw [List.append_nil] at hst
      have hlen : seen.length ≤ 36 := by rw [hst]; exact hsl
      have ho2 : m1 y 2 = (seen.length : Int) := by rw [hkp y 2 (by unfold er_YF; omega), hst]; exact ho.1
      refine vc_Y_fill_64 hy ⟨⟨by omega, by omega⟩, ⟨by omega, by omega⟩, fun _ => ?_, fun hlt => by omega⟩
      have e : er_put b (er_opn b f0) l seq [] f0 [] = (f, P) := hput.symm
      rw [e] at hQ
      exact hQ m1 hm4 (fun j j0 j1 => hti.1 j j0 j1) hmk (by omega) hc2 hkp
    | cons p t ih =>
      intro seen f P m1 hst hput hpi hti hm4 hc hfo hx hmk hc1 hc2 hkp
      have hsl2 : seen.length + (t.length + 1) = seq.length := by rw [← hst, List.length_append, List.length_cons]
      have hp : p < 36 := hs36 p (by rw [← hst]; simp)
      have hns : p ∉ seen := fun z => by
        rw [← hst] at hsn
        exact (List.nodup_append.mp hsn).2.2 p z p List.mem_cons_self rfl
      have hseen36 : ∀ x ∈ seen, x < 36 := fun x hx => hs36 x (by rw [← hst]; exact List.mem_append_left _ hx)
      have ho2 : m1 y 2 = (seq.length : Int) := by rw [hkp y 2 (by unfold er_YF; omega)]; exact ho.1
      have ho1 : m1 (y + 1) (seen.length : Int) = (p : Int) := by
        rw [hkp (y + 1) _ (by unfold er_YF; omega), ho.2 seen.length (by omega)]
        have : seq[seen.length]'(by omega) = p := by
          subst hst
          rw [List.getElem_append_right (by omega)]
          simp
        rw [this]
      have hb3 : m1 3 (p : Int) = er_bk b p := by rw [hkp 3 _ (by unfold er_YF; omega)]; exact (hb.2.2.2.2 p (by omega) (by omega)).1
      have hb4 : m1 4 (p : Int) = er_bp b p := by rw [hkp 4 _ (by unfold er_YF; omega)]; exact (hb.2.2.2.2 p (by omega) (by omega)).2.1
      have hkd := hv.2.2.2.2.2.2.2.2.1 p (by omega) (by omega)
      have hfp := hm4 p (by omega) (by omega)
      have hfpb : 0 ≤ f p ∧ f p ≤ 36 := by
        have h1 := hpi.2.2.2.1 (p : Int) (by omega) (by omega)
        have h2 := hf0 p (by omega) (by omega)
        split at h1 <;> omega
      have hst2 : (seen ++ [p]) ++ t = seq := by rw [← hst]; simp
      have skip : ¬ er_due b seen f p → (er_bk b p = 1 → f p ≠ 0 ∨ (m1 (y + 2) p = l ∧ (er_bp b p ≠ -1 → m1 (y + 2) (er_bp b p) = l))) → wp_Y_fill_64 K y l (P.length : Int) ((seen.length : Int) + 1) m1 Q := by
        intro hnd htip
        have e : (((seen ++ [p]).length : Nat) : Int) = (seen.length : Int) + 1 := by rw [List.length_append]; rfl
        have h2 := ih (seen ++ [p]) f P m1 hst2 (by rw [← hput]; simp only [er_put]; rw [er_if_f (fun z => hnd z.1)]) (er_PI2_seen hpi) (er_TI_skip hti htip) hm4 hc hfo hx hmk (by omega) hc2 hkp
        rwa [e] at h2
      refine vc_Y_fill_64 hy ⟨⟨by omega, by omega⟩, ⟨by omega, by omega⟩, fun hle => by omega, fun _ => ⟨by omega, by omega, ?_⟩⟩
      rw [ho1, hb3, hb4, hfp]
      refine ⟨by omega, by omega, ⟨by omega, by omega⟩, fun hk1 => ?_, fun hk1 => ⟨⟨by omega, by omega⟩, fun hf1 => ?_, fun hf1 => ?_⟩⟩
      · exact vc_Y_fill_107 hy (skip (fun z => hk1 z.1) (fun z => absurd z hk1))
      · exact vc_Y_fill_107 hy (skip (fun z => hf1 z.2.1) (fun _ => Or.inl hf1))
      · have hgp := hti.1 p (by omega) (by omega)
        refine ⟨⟨by omega, by omega⟩, ⟨by omega, by omega⟩, fun hg1 => ?_, fun hg1 => ?_⟩
        · -- tried with its partner
          rcases hti.2.1 p (by omega) (by omega) hg1 with z | ⟨z1, z2⟩
          · exact absurd (by simpa using z) hns
          · refine skip (fun d => d.2.2 ⟨z1, z2⟩) (fun _ => Or.inr ⟨hg1, fun hne => ?_⟩)
            rcases hP p (by omega) (by omega) with w | w
            · exact absurd w hne
            · have hkq : er_bk b (er_bp b p) = 1 := by
                rcases hP (er_bp b p) w.1 w.2.1 with v | v
                · omega
                · exact v.2.2.2.2
              have h3 := hti.2.2 _ z2 (by rw [show (((er_bp b p).toNat : Nat) : Int) = er_bp b p by omega]; exact hkq)
              rw [show (((er_bp b p).toNat : Nat) : Int) = er_bp b p by omega] at h3
              rcases h3 with v | v
              · exact absurd ((hpi.1.1 p (by omega) (by omega) hne).mp hf1) v
              · exact v.1
        · have hdue : er_due b seen f p := by
            refine ⟨hk1, hf1, fun ⟨z1, z2⟩ => ?_⟩
            have hne : er_bp b p ≠ -1 := by omega
            rcases hP p (by omega) (by omega) with w | w
            · exact absurd w hne
            · have hkq : er_bk b (er_bp b p) = 1 := by
                rcases hP (er_bp b p) w.1 w.2.1 with v | v
                · omega
                · exact v.2.2.2.2
              have h3 := hti.2.2 _ z2 (by rw [show (((er_bp b p).toNat : Nat) : Int) = er_bp b p by omega]; exact hkq)
              rw [show (((er_bp b p).toNat : Nat) : Int) = er_bp b p by omega] at h3
              rcases h3 with v | v
              · exact absurd ((hpi.1.1 p (by omega) (by omega) hne).mp hf1) v
              · have := v.2 (by omega)
                rw [w.2.2.1] at this
                exact hg1 this
          have hpi' := er_PI2_put hv hpi (show l ≠ 0 by omega) hp hns hdue
          have hlen2 : (((seen ++ [p]).length : Nat) : Int) = (seen.length : Int) + 1 := by rw [List.length_append]; rfl
          refine sp_Y_consider hy hv hop hc hfo hx hmk (by omega) hpi'.2.1 (fun q hq => (hpi'.2.2.1 q hq).1) hl (fun hcan m' q1 q2 q3 q4 q5 q6 q7 q8 q9 => ?_) (fun hcan m' q1 q2 q3 q4 q5 q6 q7 q8 q9 => ?_)
          · have h2 := ih (seen ++ [p]) (er_on b f p l) (P ++ er_pp b p) m' hst2 (by rw [← hput]; simp only [er_put]; rw [er_if_t ⟨hdue, hcan⟩]) hpi' (er_TI_try hv hp (by omega) (fun j _ _ => q8 j) (fun j j0 j1 hj => by
                rcases er_on_or b f p l j with z | z <;> rw [z]
                · omega
                · exact hj) hseen36 hti) (fun j j0 j1 => by rw [q7 j]; exact er_on_at (hm4 j j0 j1)) q1 q2 q3 q4 (by omega) (by omega) (hkp.tr (q9.wk (fun c j z => by unfold er_CF2 at z; unfold er_YF; omega)))
            rw [hlen2, List.length_append] at h2
            exact h2
          · have h2 := ih (seen ++ [p]) f P m' hst2 (by rw [← hput]; simp only [er_put]; rw [er_if_f (fun z => hcan z.2)]) (er_PI2_seen hpi) (er_TI_try hv hp (by omega) (fun j _ _ => q8 j) (fun j j0 j1 hj => hj) hseen36 hti) (fun j j0 j1 => by rw [q7 j]; exact hm4 j j0 j1) q1 q2 q3 q4 (by omega) (by omega) (hkp.tr (q9.wk (fun c j z => by unfold er_CF2 at z; unfold er_YF; omega)))
            rw [hlen2] at h2
            rw [Int.add_zero]
            exact h2
  -- which places are open
  have loop : ∀ (d x : Nat) (m1 : er_M), x + d = 36 → (∀ j : Int, 0 ≤ j → j < x → m1 (y + 3) j = er_opn b f0 j) → er_kp (fun c _ => c = y + 3) m m1 → wp_Y_fill_3 K y l (x : Int) m1 Q := by
    intro d
    induction d with
    | zero =>
      intro x m1 hx hop1 hkp
      refine vc_Y_fill_3 hy ⟨⟨by omega, by omega⟩, fun _ => ?_, fun hlt => by omega⟩
      have hcb := hb.kp hkp (fun q k a z => by omega)
      have h3 : ∀ j : Int, 0 ≤ j → j < 36 → m1 3 j = er_bk b j := fun j j0 j1 => (hcb.2.2.2.2 j j0 j1).1
      refine sp_N_build hn52 (by rcases yc with z | z | z | z <;> (rw [z]; rfl)) (er_CB_BM hcb hv) (fun j j0 j1 => by rw [h3 j j0 j1]; exact hv.2.2.2.2.2.2.2.2.1 j j0 j1) (fun j j0 j1 => by rw [hop1 j j0 (by omega)]; exact er_opn_01 b f0 j) ⟨by decide, by decide⟩ (fun m3 hcf hk3 _ => ?_)
      rw [er_LC_congr (kd' := er_bk b) (op' := er_opn b f0) (sup' := fun p => er_ic (p ∈ ([] : List Nat))) hv.2.1 hv.2.2.2.1 h3 (fun j j0 j1 => hop1 j j0 (by omega)) (fun p _ => (er_ic_f (by simp)).symm)] at hcf
      have hfo := er_Fr_FO hcf.2 hcf.1.2.2.1
      have kk : er_kp (er_YF y) m m3 := (hkp.wk (fun c j z => by unfold er_YF; omega)).tr (hk3.wk (fun c j z => by unfold er_NB at z; unfold er_YF; omega))
      have kc : m3 52 10 = m 52 10 := by rw [hk3 52 10 (by unfold er_NB; omega), hkp 52 10 (by omega)]
      have k58 : ∀ j, m3 58 j = m 58 j := fun j => by rw [hk3 58 j (by unfold er_NB; omega), hkp 58 j (by omega)]
      have k2 : ∀ j, m3 (y + 2) j = m (y + 2) j := fun j => by rw [hk3 (y + 2) j (by unfold er_NB; omega), hkp (y + 2) j (by omega)]
      have k4 : ∀ j, m3 (y + 4) j = m (y + 4) j := fun j => by rw [hk3 (y + 4) j (by unfold er_NB; omega), hkp (y + 4) j (by omega)]
      refine walk seq [] f0 [] m3 rfl rfl (er_PI2_0 hLI) ⟨fun j j0 j1 => by rw [k2]; have := hg j j0 j1; omega, fun j j0 j1 hj => by rw [k2] at hj; have := hg j j0 j1; omega, fun x hx => by simp at hx⟩ (fun j j0 j1 => by rw [k4]; exact hf j j0 j1) hcf.1 hfo.1 (hfo.2 0) ⟨by rw [kc]; exact hk.1, fun v v0 v1 => by rw [kc, show 52 + 6 = 58 from rfl, k58]; exact hk.2 v v0 v1⟩ (by rw [kc, List.length_nil]; omega) (by rw [kc]; exact Int.le_refl _) kk
    | succ d ih =>
      intro x m1 hx hop1 hkp
      have h3 : m1 3 (x : Int) = er_bk b x := by rw [hkp 3 _ (by omega)]; exact (hb.2.2.2.2 x (by omega) (by omega)).1
      have h4 : m1 (y + 4) (x : Int) = f0 x := by rw [hkp _ _ (by omega)]; exact hf x (by omega) (by omega)
      have hkd := hv.2.2.2.2.2.2.2.2.1 x (by omega) (by omega)
      have hfx := hf0 x (by omega) (by omega)
      have step : ∀ v : Int, v = er_opn b f0 x → ∀ m8 : er_M, m8 = er_st m1 (y + 3) x v → wp_Y_fill_3 K y l ((x : Int) + 1) m8 Q := by
        intro v ev m8 e8
        refine ih (x + 1) m8 (by omega) (fun j j0 j1 => ?_) (hkp.tr (by rw [e8]; exact er_kp.st rfl))
        rw [e8]
        by_cases hj : j = x
        · rw [hj, er_st_s, ev]
        · rw [er_st_k hj]; exact hop1 j j0 (by omega)
      refine vc_Y_fill_3 hy ⟨⟨by omega, by omega⟩, fun hle => by omega, fun _ => ⟨by omega, by omega, ?_⟩⟩
      rw [h3, h4]
      refine ⟨⟨by omega, by omega⟩, fun hz => step 1 ?_, fun hz => ⟨⟨by omega, by omega⟩, fun hz2 => step 0 ?_, fun hz2 => step 1 ?_⟩⟩
      · unfold er_opn; rw [if_pos (Or.inl hz)]
      · unfold er_opn; rw [if_neg (fun z => z.elim hz (fun z => z hz2))]
      · unfold er_opn; rw [if_pos (Or.inr hz2)]
  exact vc_Y_fill hy (loop 36 0 m (by omega) (fun j j0 j1 => by omega) er_kp.rf)
end ERL
