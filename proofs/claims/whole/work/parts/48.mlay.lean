/-! the reference's layering: all of it -/
theorem er_put_filter {b : er_Bo} {op : Int → Int} {l : Int} (hv : er_BV b) : ∀ (t seen seen' : List Nat) (f : Int → Int) (P : List Nat), (∀ p ∈ t, p < 36) → (∀ x : Nat, er_bk b (x : Int) = 1 → (x ∈ seen ↔ x ∈ seen')) → er_put b op l t seen f P = er_put b op l (t.filter (fun p => decide (er_bk b (p : Int) = 1))) seen' f P := by
  intro t
  induction t with
  | nil => intro _ _ _ _ _ _; rfl
  | cons p t ih =>
    intro seen seen' f P h36 hs
    have hp := h36 p List.mem_cons_self
    have ht : ∀ q ∈ t, q < 36 := fun q hq => h36 q (List.mem_cons_of_mem _ hq)
    rw [List.filter_cons]
    by_cases hk : er_bk b (p : Int) = 1
    · rw [if_pos (by rw [decide_eq_true_eq]; exact hk)]
      have hs2 : ∀ x : Nat, er_bk b (x : Int) = 1 → (x ∈ seen ++ [p] ↔ x ∈ seen' ++ [p]) := fun x hx => by
        rw [List.mem_append, List.mem_append, hs x hx]
      have hdue : er_due b seen f p ↔ er_due b seen' f p := by
        have hpt := hv.2.2.2.2.2.2.2.2.2.2.1 p (by omega) (by omega)
        unfold er_due
        refine and_congr_right (fun _ => and_congr_right (fun _ => not_congr (and_congr_right (fun h0 => ?_))))
        rcases hpt with z | z
        · omega
        · refine hs _ ?_
          rw [show (((er_bp b p).toNat : Nat) : Int) = er_bp b p by omega]
          rcases hv.2.2.2.2.2.2.2.2.2.2.1 (er_bp b p) z.1 z.2.1 with y | y
          · omega
          · exact y.2.2.2.2
      simp only [er_put]
      by_cases hc : er_due b seen f p ∧ er_can b op (P ++ er_pp b p)
      · rw [er_if_t hc, er_if_t ⟨hdue.mp hc.1, hc.2⟩]
        exact ih _ _ _ _ ht hs2
      · rw [er_if_f hc, er_if_f (fun z => hc ⟨hdue.mpr z.1, z.2⟩)]
        exact ih _ _ _ _ ht hs2
    · rw [if_neg (by rw [decide_eq_true_eq]; exact hk)]
      simp only [er_put]
      rw [er_if_f (fun z => hk z.1.1)]
      refine ih _ _ _ _ ht (fun x hx => ?_)
      rw [List.mem_append, List.mem_singleton, ← hs x hx]
      refine ⟨fun z => z.resolve_right (fun y => hk (by rw [← y]; exact hx)), Or.inl⟩
theorem er_lays_msq {b : er_Bo} {s : Nat} (hv : er_BV b) (hs : s < 4) : ∀ (k : Nat) (l : Int) (f : Int → Int) (left : Int), er_lays b (er_seq (er_bR b) (er_bC b) s) k l f left = er_lays b (er_msq b s) k l f left := by
  have hR := hv.2.1
  have hC := hv.2.2.2.1
  obtain ⟨sq1, sq2, sq3, sq4, sq5⟩ := er_seq_all (er_bR b) (by omega) (er_bC b) (by omega) s hs
  intro k
  induction k with
  | zero => intro l f left; rfl
  | succ k ih =>
    intro l f left
    have e : er_put b (er_opn b f) l (er_seq (er_bR b) (er_bC b) s) [] f [] = er_put b (er_opn b f) l (er_msq b s) [] f [] := er_put_filter hv _ _ _ _ _ (fun p hp => (sq2 p hp).2.2) (fun x _ => Iff.rfl)
    simp only [er_lays]
    rw [e, ih]
def er_97 (f : Int → Int) (j : Int) : Int := if f j = 0 then -9 else f j
def er_MV : Nat → Int → Prop := fun c k => (88 ≤ c ∧ c ≤ 99) ∨ (c = 83 ∧ (k = 13 ∨ k = 20))
section ERV
variable {K : er_K} {m : er_M}
theorem sp_M_isFirst {b : er_Bo} {seen t : List Nat} {p : Nat} {Q : Int → er_M → Prop} (hv : er_BV b) (hb : er_RB m b) (ho : er_oh m 0 (seen ++ t)) (hl : seen.length < 36) (h36 : ∀ q ∈ seen, q < 36) (hp : p < 36) (hQ1 : ¬ (0 ≤ er_bp b p ∧ (er_bp b p).toNat ∈ seen) → Q 1 m) (hQ0 : (0 ≤ er_bp b p ∧ (er_bp b p).toNat ∈ seen) → Q 0 m) : er_SI K mi_M_isFirst [.inr 83, .inl (p : Int), .inl (seen.length : Int)] m Q := by
  have hpt := hv.2.2.2.2.2.2.2.2.2.2.1 p (by omega) (by omega)
  have hpa := (hb.2 p (by omega) (by omega)).2.1
  have hos := (er_oh_app.mp ho).1
  have loop : ∀ (d j : Nat) (v : Int), j + d = seen.length → ((v = 1 ∧ ∀ i : Nat, i < j → m 98 (i : Int) ≠ er_bp b p) ∨ (v = 0 ∧ ∃ i : Nat, i < j ∧ m 98 (i : Int) = er_bp b p)) → wp_M_isFirst_5 K (p : Int) (seen.length : Int) v (j : Int) m Q := by
    intro d
    induction d with
    | zero =>
      intro j v hj hvv
      refine vc_M_isFirst_5 ⟨⟨by omega, by omega⟩, ⟨by omega, by omega⟩, fun _ => ⟨by rcases hvv with z | z; exact Or.inr z.1; exact Or.inl z.1, ?_⟩, fun hlt => by omega⟩
      rcases hvv with ⟨z1, z2⟩ | ⟨z1, z2⟩
      · rw [z1]
        refine hQ1 (fun ⟨y1, y2⟩ => ?_)
        obtain ⟨i, hi, hie⟩ := List.mem_iff_getElem.mp y2
        have h1 := hos i hi
        rw [hie, show ((0 + i : Nat) : Int) = (i : Int) by omega] at h1
        exact z2 i (by omega) (by omega)
      · rw [z1]
        obtain ⟨i, hi, hie⟩ := z2
        have h1 := hos i (by omega)
        rw [show ((0 + i : Nat) : Int) = (i : Int) by omega] at h1
        refine hQ0 ⟨by omega, ?_⟩
        rw [show (er_bp b p).toNat = seen[i]'(by omega) by omega]
        exact List.getElem_mem _
    | succ d ih =>
      intro j v hj hvv
      refine vc_M_isFirst_5 ⟨⟨by omega, by omega⟩, ⟨by omega, by omega⟩, fun hle => by omega, fun _ => ⟨by rcases hvv with z | z <;> exact ⟨by omega, by omega⟩, fun hz => ?_, fun hnz => ⟨by omega, by omega, by omega, by omega, ?_, ⟨by omega, by omega⟩, fun he => ?_, fun hne => ?_⟩⟩⟩
      · rcases hvv with z | ⟨z1, i, z2, z3⟩
        · omega
        · exact ih (j + 1) 0 (by omega) (Or.inr ⟨rfl, i, by omega, z3⟩)
      · have h1 := hos j (by omega)
        rw [show ((0 + j : Nat) : Int) = (j : Int) by omega] at h1
        have h2 : (seen[j]'(by omega)) < 36 := h36 _ (List.getElem_mem _)
        exact ⟨by omega, by omega⟩
      · exact ih (j + 1) 0 (by omega) (Or.inr ⟨rfl, j, by omega, by omega⟩)
      · rcases hvv with ⟨z1, z2⟩ | ⟨z1, z2⟩
        · refine ih (j + 1) 1 (by omega) (Or.inl ⟨rfl, fun i hi => ?_⟩)
          by_cases hij : i = j
          · rw [hij]; omega
          · exact z2 i (by omega)
        · omega
  exact vc_M_isFirst (loop seen.length 0 1 (by omega) (Or.inl ⟨rfl, fun i hi => by omega⟩))
theorem er_ML_nil {b : er_Bo} {op op' : Int → Int} (hv : er_BV b) (h : ∀ j : Int, 0 ≤ j → j < 36 → op j = op' j) : er_tiles (er_bR b) (er_bC b) (er_bt b) 100000 ++ er_chans (er_bR b) (er_bC b) (er_bh b) op = er_ML b op' [] := by
  unfold er_ML er_LM
  rw [er_chans_congr hv.2.1 hv.2.2.2.1 h]
  simp [er_mp]
theorem er_97_on {b : er_Bo} {f g : Int → Int} {p : Nat} {l j : Int} (hl : l ≠ 0) (h : g j = er_97 f j) : er_on b g p l j = er_97 (er_on b f p l) j := by
  unfold er_97 at h ⊢
  rw [er_on_eq b g, er_on_eq b f, h]
  split
  · split
    · first | rfl | rw [if_neg hl]
    · first | rfl | rw [if_neg hl]
  · split
    · first | rfl | rw [if_neg hl]
    · split
      · first | rfl | rw [if_neg hl]
      · first | rfl | rw [if_neg hl]
theorem sp_M_layering {b : er_Bo} {s : Nat} {Q : Int → er_M → Prop} (hv : er_BV b) (hb : er_RB m b) (hs : s < 4)
    (hQ : ∀ v m', v = (if (er_lay b s).2.2 = 1 then (er_lay b s).2.1 else -9) → (∀ j : Int, 0 ≤ j → j < 36 → m' 97 j = er_97 (er_lay b s).1 j ∧ 0 ≤ (er_lay b s).1 j ∧ (er_lay b s).1 j ≤ 36) → er_kp er_MV m m' → Q v m') : er_SI K mi_M_layering [.inr 83, .inl (s : Int)] m Q := by
  have hmem : ∀ q, q ∈ er_msq b s ↔ q < 36 ∧ er_bk b (q : Int) = 1 := fun q => er_msq_mem hv hs
  have hnd := er_msq_nodup hv hs
  have hlen36 := er_card36 (fun q hq => ((hmem q).mp hq).1) hnd
  have hlsig := er_msq_len hv hs
  have hkV : ∀ k, ¬ er_MV 84 k := fun k z => by unfold er_MV at z; omega
  -- the pins of a layer in order
  have walk : ∀ (l left : Int) (f0 : Int → Int), 1 ≤ l → l ≤ 36 → 0 ≤ left → left ≤ 36 → (∀ j : Int, 0 ≤ j → j < 36 → 0 ≤ f0 j ∧ f0 j ≤ 36) → (∀ m2 f P, er_put b (er_opn b f0) l (er_msq b s) [] f0 [] = (f, P) → er_PI2 b f0 l (er_msq b s) f P → (∀ j : Int, 0 ≤ j → j < 36 → m2 97 j = er_97 f j) → m2 83 20 = ((er_msq b s).length : Int) → er_oh m2 0 (er_msq b s) → er_kp er_MV m m2 → ((left - (P.length : Int) ≠ left → wp_M_layering_34 K (left - (P.length : Int)) l m2 Q) ∧ (left - (P.length : Int) = left → Q (-9) m2))) →
      ∀ (t seen : List Nat) (f : Int → Int) (P : List Nat) (m1 : er_M), seen ++ t = er_msq b s → er_put b (er_opn b f0) l t seen f P = er_put b (er_opn b f0) l (er_msq b s) [] f0 [] → er_PI2 b f0 l seen f P → (∀ j : Int, 0 ≤ j → j < 36 → m1 97 j = er_97 f j) → er_MF m1 (er_ML b (er_opn b f0) P) (P.length : Int) → m1 83 20 = ((er_msq b s).length : Int) → er_oh m1 0 (er_msq b s) → er_kp er_MV m m1 → wp_M_layering_103 K (left - (P.length : Int)) l left (seen.length : Int) m1 Q := by
    intro l left f0 hl1 hl36 hleft0 hleft36 hf0 hend t
    induction t with
    | nil =>
      intro seen f P m1 hst hput hpi h97 hmf h20 hoh hkp
      rw [List.append_nil] at hst
      have hPc := er_card36 (fun q hq => (hpi.2.2.1 q hq).1) hpi.2.1
      have hls : seen.length = (er_msq b s).length := by rw [hst]
      subst hst
      refine vc_M_layering_103 ⟨⟨by omega, by omega⟩, ⟨by omega, by omega⟩, fun _ => ⟨⟨by omega, by omega⟩, ⟨by omega, by omega⟩, ?_⟩, fun hlt => by omega⟩
      exact hend m1 f P hput.symm hpi h97 h20 hoh hkp
    | cons p t ih =>
      intro seen f P m1 hst hput hpi h97 hmf h20 hoh hkp
      have hPc := er_card36 (fun q hq => (hpi.2.2.1 q hq).1) hpi.2.1
      have hsl : seen.length + (t.length + 1) = (er_msq b s).length := by rw [← hst, List.length_append, List.length_cons]
      have hpm := (hmem p).mp (by rw [← hst]; simp)
      have hp : p < 36 := hpm.1
      have hns : p ∉ seen := fun z => by
        rw [← hst] at hnd
        exact (List.nodup_append.mp hnd).2.2 p z p List.mem_cons_self rfl
      have h98 : m1 98 (seen.length : Int) = (p : Int) := by
        rw [← hst] at hoh
        have h1 := (er_oh_app.mp hoh).2 0 (by simp)
        rw [show ((0 + seen.length + 0 : Nat) : Int) = (seen.length : Int) by omega] at h1
        exact h1
      have hfp := h97 p (by omega) (by omega)
      have hfpb : 0 ≤ f p ∧ f p ≤ 36 := by
        have h1 := hpi.2.2.2.1 (p : Int) (by omega) (by omega)
        have h2 := hf0 p (by omega) (by omega)
        split at h1 <;> omega
      have hst2 : (seen ++ [p]) ++ t = er_msq b s := by rw [← hst]; simp
      have hlen2 : (((seen ++ [p]).length : Nat) : Int) = (seen.length : Int) + 1 := by rw [List.length_append]; rfl
      have skip : ¬ er_due b seen f p → wp_M_layering_103 K (left - (P.length : Int)) l left ((seen.length : Int) + 1) m1 Q := by
        intro hnd
        have h2 := ih (seen ++ [p]) f P m1 hst2 (by rw [← hput]; simp only [er_put]; rw [er_if_f (fun z => hnd z.1)]) (er_PI2_seen hpi) h97 hmf h20 hoh hkp
        rwa [hlen2] at h2
      refine vc_M_layering_103 ⟨⟨by omega, by omega⟩, ⟨by omega, by omega⟩, fun hle => by omega, fun _ => ⟨by omega, by omega, ?_⟩⟩
      rw [h98, hfp]
      unfold er_97
      refine ⟨by omega, by omega, by split <;> exact ⟨by omega, by omega⟩, fun hne => ?_, fun heq => ?_⟩
      · exact vc_M_layering_148 (skip (fun d => hne (by rw [if_pos d.2.1])))
      · have hf1 : f p = 0 := by
          by_cases hz : f p = 0
          · exact hz
          · rw [if_neg hz] at heq; omega
        have hb1 := hb.kp hkp hkV
        refine sp_M_isFirst (t := p :: t) hv hb1 (by rw [hst]; exact hoh) (by omega) (fun q hq => ((hmem q).mp (by rw [← hst]; exact List.mem_append_left _ hq)).1) hp (fun hfst => ?_) (fun hnot => ?_)
        · refine ⟨⟨by omega, by omega⟩, fun hz => absurd hz (by decide), fun _ => ?_⟩
          have hdue : er_due b seen f p := ⟨hpm.2, hf1, hfst⟩
          have hpi' := er_PI2_put hv hpi (show l ≠ 0 by omega) hp hns hdue
          have hPk : ∀ q ∈ P ++ er_pp b p, q < 36 ∧ er_bk b (q : Int) = 1 := fun q hq => ⟨(hpi'.2.2.1 q hq).1, (hpi'.2.2.1 q hq).2.1⟩
          have hpa := (hb1.2 p (by omega) (by omega)).2.1
          have hppl : (er_pp b p).length = if er_bp b p = -1 then 1 else 2 := by unfold er_pp; split <;> rfl
          have hqr := hv.2.2.2.2.2.2.2.2.2.2.1 p (by omega) (by omega)
          refine sp_M_puts hv (fun j _ _ => er_opn_01 b f0 j) hpa hmf hpi'.2.1 hPk ⟨hl1, by omega⟩ (fun hcan m' q1 q2 q3 => ?_) (fun hcan m' q1 q2 q3 => ?_)
          · have kp' : er_kp er_MV m m' := hkp.tr (q3.wk (fun c k z => by unfold er_MU at z; unfold er_MV; omega))
            have h20' : m' 83 20 = ((er_msq b s).length : Int) := by rw [q3 83 20 (by unfold er_MU; omega)]; exact h20
            have hoh' : er_oh m' 0 (er_msq b s) := er_oh_eq hoh (fun k => q3 98 k (by unfold er_MU; omega))
            have hb' := hb.kp kp' hkV
            have hpa' := (hb'.2 p (by omega) (by omega)).2.1
            have h2 := ih (seen ++ [p]) (er_on b f p l) (P ++ er_pp b p) m' hst2 (by rw [← hput]; simp only [er_put]; rw [er_if_t ⟨hdue, hcan⟩]) hpi' (fun j j0 j1 => by rw [q2 j]; exact er_97_on (by omega) (h97 j j0 j1)) q1 h20' hoh' kp'
            rw [hlen2, List.length_append, hppl] at h2
            refine ⟨⟨by omega, by omega⟩, fun hz => absurd hz (by decide), fun _ => ⟨by omega, by omega, ?_⟩⟩
            rw [hpa']
            refine ⟨by rcases hqr with z | z <;> exact ⟨by omega, by omega⟩, fun hle => ?_, fun hgt => ?_⟩
            · rw [if_pos (by rcases hqr with z | z <;> omega)] at h2
              rw [show left - ((P.length + 1 : Nat) : Int) = left - (P.length : Int) - 1 by omega] at h2
              exact h2
            · rw [if_neg (by omega)] at h2
              rw [show left - ((P.length + 2 : Nat) : Int) = left - (P.length : Int) - 2 by omega] at h2
              exact h2
          · refine ⟨⟨by omega, by omega⟩, fun _ => ?_, fun hz => absurd rfl hz⟩
            have kp' : er_kp er_MV m m' := hkp.tr (q3.wk (fun c k z => by unfold er_MU at z; unfold er_MV; omega))
            have h2 := ih (seen ++ [p]) f P m' hst2 (by rw [← hput]; simp only [er_put]; rw [er_if_f (fun z => hcan z.2)]) (er_PI2_seen hpi) (fun j j0 j1 => by rw [q2 j]; exact h97 j j0 j1) q1 (by rw [q3 83 20 (by unfold er_MU; omega)]; exact h20) (er_oh_eq hoh (fun k => q3 98 k (by unfold er_MU; omega))) kp'
            rw [hlen2] at h2
            exact h2
        · refine ⟨⟨by omega, by omega⟩, fun _ => vc_M_layering_148 (skip (fun d => d.2.2 hnot)), fun hz => absurd rfl hz⟩
  -- a layer
  have layers : ∀ (k : Nat) (l : Int) (f : Int → Int) (m1 : er_M), (k : Int) + l = 38 → 1 ≤ k → 1 ≤ l → er_lays b (er_msq b s) k l f (er_left b f) = er_lay b s → er_left b f ≤ 37 - l → er_LI b f → (∀ j : Int, 0 ≤ j → j < 36 → m1 97 j = er_97 f j ∧ 0 ≤ f j ∧ f j ≤ 36) → m1 83 20 = ((er_msq b s).length : Int) → er_oh m1 0 (er_msq b s) → er_kp er_MV m m1 → wp_M_layering_34 K (er_left b f) (l - 1) m1 Q := by
    intro k
    induction k with
    | zero => intro l f m1 _ h; exact absurd h (by decide)
    | succ k ih =>
      intro l f m1 hkl hk1 hl1 he hle hLI hf h20 hoh hkp
      have hnn := er_left_nn b f
      simp only [er_lays] at he
      refine vc_M_layering_34 ⟨⟨by omega, by omega⟩, fun hz => ?_, fun hpos => ?_⟩
      · rw [if_pos hz] at he
        refine hQ (l - 1) m1 (by rw [← he]; rfl) (fun j j0 j1 => by rw [← he]; exact hf j j0 j1) hkp
      · rw [if_neg (by omega)] at he
        rw [show l - 1 + 1 = l by omega]
        -- which places are open
        have opens : ∀ (d x : Nat) (m2 : er_M), x + d = 36 → (∀ j : Int, 0 ≤ j → j < x → m2 93 j = er_opn b f j) → er_kp (fun c _ => c = 93) m1 m2 → wp_M_layering_44 K (er_left b f) l (x : Int) m2 Q := by
          intro d
          induction d with
          | zero =>
            intro x m2 hx hop hk2
            have kp2 : er_kp er_MV m m2 := hkp.tr (hk2.wk (fun c k z => by unfold er_MV; omega))
            have hb2 := hb.kp kp2 hkV
            refine vc_M_layering_44 ⟨⟨by omega, by omega⟩, fun _ => ?_, fun hlt => by omega⟩
            refine sp_M_lay hb2.1 (fun j j0 j1 => by rw [hop j j0 (by omega)]; exact er_opn_01 b f j) (fun m3 h3 => ?_)
            have hmf3 := h3.1
            rw [er_ML_nil (op' := er_opn b f) hv (fun j j0 j1 => hop j j0 (by omega))] at hmf3
            have kp3 : er_kp er_MV m m3 := kp2.tr (h3.2.wk (fun c k z => by unfold er_MB at z; unfold er_MV; omega))
            have e97 : ∀ j, m3 97 j = m1 97 j := fun j => by rw [h3.2 97 j (by unfold er_MB; omega), hk2 97 j (by omega)]
            have e98 : ∀ j, m3 98 j = m1 98 j := fun j => by rw [h3.2 98 j (by unfold er_MB; omega), hk2 98 j (by omega)]
            have e20 : m3 83 20 = m1 83 20 := by rw [h3.2 83 20 (by unfold er_MB; omega), hk2 83 20 (by omega)]
            have hw := walk l (er_left b f) f hl1 (by omega) hnn (by omega) (fun j j0 j1 => (hf j j0 j1).2) (fun m4 f4 P4 w1 w2 w3 w4 w5 w6 => ?_) (er_msq b s) [] f [] m3 rfl rfl (er_PI2_0 hLI) (fun j j0 j1 => by rw [e97]; exact (hf j j0 j1).1) hmf3 (by rw [e20]; exact h20) (er_oh_eq hoh e98) kp3
            · simpa using hw
            · rw [w1] at he
              have hleft := er_left_put w2 (show l ≠ 0 by omega)
              have hlr := er_left_nn b f4
              refine ⟨fun hne => ?_, fun heq => ?_⟩
              · have hne2 : P4 ≠ [] := fun z => hne (by rw [z]; simp)
                rw [er_if_f hne2, ← hleft] at he
                have h2 := ih (l + 1) f4 m4 (by omega) (by omega) (by omega) he (by
                  have : 0 < P4.length := List.length_pos_iff.mpr hne2
                  omega) w2.1 (fun j j0 j1 => by
                  refine ⟨w3 j j0 j1, ?_⟩
                  rw [w2.2.2.2.1 j j0 j1]
                  have := hf j j0 j1
                  split <;> omega) w4 w5 w6
                rw [hleft, show l + 1 - 1 = l by omega] at h2
                exact h2
              · have hnil : P4 = [] := List.eq_nil_of_length_eq_zero (by omega)
                rw [er_if_t hnil] at he
                refine hQ (-9) m4 (by rw [← he]; rfl) (fun j j0 j1 => ?_) w6
                rw [← he]
                refine ⟨w3 j j0 j1, ?_⟩
                simp only
                rw [w2.2.2.2.1 j j0 j1]
                have := hf j j0 j1
                split <;> omega
          | succ d ihd =>
            intro x m2 hx hop hk2
            have kp2 : er_kp er_MV m m2 := hkp.tr (hk2.wk (fun c k z => by unfold er_MV; omega))
            have hb2 := hb.kp kp2 hkV
            have h4 := (hb2.2 x (by omega) (by omega)).1
            have h7 : m2 97 (x : Int) = er_97 f x := by rw [hk2 97 _ (by omega)]; exact (hf x (by omega) (by omega)).1
            have hfx := (hf x (by omega) (by omega)).2
            have hkd := hv.2.2.2.2.2.2.2.2.1 x (by omega) (by omega)
            have step : ∀ v : Int, v = er_opn b f x → ∀ m8 : er_M, m8 = er_st m2 93 x v → wp_M_layering_44 K (er_left b f) l ((x : Int) + 1) m8 Q := by
              intro v ev m8 e8
              refine ihd (x + 1) m8 (by omega) (fun j j0 j1 => ?_) (hk2.tr (by rw [e8]; exact er_kp.st rfl))
              rw [e8]
              by_cases hj : j = x
              · rw [hj, er_st_s, ev]
              · rw [er_st_k hj]; exact hop j j0 (by omega)
            refine vc_M_layering_44 ⟨⟨by omega, by omega⟩, fun hle => by omega, fun _ => ⟨by omega, by omega, ?_⟩⟩
            rw [h4, h7]
            unfold er_97
            refine ⟨⟨by omega, by omega⟩, fun hz => ⟨by omega, by omega, step 1 ?_⟩, fun hz => ⟨by omega, by omega, by split <;> exact ⟨by omega, by omega⟩, fun hz2 => step 0 ?_, fun hz2 => step 1 ?_⟩⟩
            · unfold er_opn; rw [if_pos (Or.inl hz)]
            · have hf0 : f x = 0 := by
                by_cases hq : f x = 0
                · exact hq
                · rw [if_neg hq] at hz2; omega
              unfold er_opn; rw [if_neg (fun z => z.elim hz (fun z => z hf0))]
            · have hf0 : f x ≠ 0 := fun hq => hz2 (by rw [if_pos hq])
              unfold er_opn; rw [if_pos (Or.inr hf0)]
        exact opens 36 0 m1 (by decide) (fun j j0 j1 => by omega) er_kp.rf
  -- none so far
  have none : ∀ (d x : Nat) (m1 : er_M), x + d = 36 → (∀ j : Int, 0 ≤ j → j < x → m1 97 j = -9) → m1 83 20 = ((er_msq b s).length : Int) → er_oh m1 0 (er_msq b s) → er_kp er_MV m m1 → wp_M_layering_7 K (x : Int) m1 Q := by
    intro d
    induction d with
    | zero =>
      intro x m1 hx h9 h20 hoh hkp
      refine vc_M_layering_7 ⟨⟨by omega, by omega⟩, fun _ => ?_, fun hlt => by omega⟩
      have hsb := er_sig_bd b
      rw [h20, hlsig, ← er_left_0 b]
      exact layers 37 1 (fun _ => 0) m1 (by decide) (by decide) (by decide) (by rw [er_left_0, ← er_lays_msq hv hs]; rfl) (by rw [er_left_0]; omega) ⟨fun j j0 j1 _ => Iff.rfl, fun j j0 j1 hj => absurd rfl hj⟩ (fun j j0 j1 => ⟨by rw [h9 j j0 (by omega)]; rfl, by decide, by decide⟩) h20 hoh hkp
    | succ d ih =>
      intro x m1 hx h9 h20 hoh hkp
      refine vc_M_layering_7 ⟨⟨by omega, by omega⟩, fun hle => by omega, fun _ => ⟨by omega, by omega, fun m5 e5 => ?_⟩⟩
      refine ih (x + 1) m5 (by omega) (fun j j0 j1 => ?_) (by rw [e5, er_st_c (by decide)]; exact h20) (er_oh_eq hoh (fun k => by rw [e5, er_st_c (by decide)])) (hkp.tr (by rw [e5]; exact er_kp.st (by unfold er_MV; omega)))
      rw [e5]
      by_cases hj : j = x
      · rw [hj, er_st_s]
      · rw [er_st_k hj]; exact h9 j j0 (by omega)
  refine vc_M_layering (sp_M_sort hv hb hs (fun m1 h20 hoh hk1 => ?_))
  exact none 36 0 m1 (by decide) (fun j j0 j1 => by omega) h20 hoh (hk1.wk (fun c k z => by unfold er_OV at z; unfold er_MV; omega))
end ERV
