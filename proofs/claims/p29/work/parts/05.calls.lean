/-! calls, returns, entry, switches, the JDK's three -/
theorem er_gi {ws : List Cond} (h : ∀ w ∈ ws, w ∈ er_tb) : GoodIn er_tb ws := fun w hw => ⟨h w hw, good_of_word (List.mem_filter.mp (h w hw)).2⟩
def er_MD (j : er_I) (n : Nat) : Prop := j.1.cls ≠ "java/lang/invoke/MethodHandle" ∧ j.1.cls ≠ "java/lang/invoke/VarHandle" ∧ (parseMethodDescriptor j.1.desc).map (fun d => d.parameters.length) = some n
def er_MW (j : er_I) : Prop := Cond.code j.1 j.2.1 j.2.2.1 j.2.2.2.1 ∈ er_tb ∧ Cond.initialized j.1.cls ∈ er_tb
theorem er_wd_in {j : er_I} (h : er_MW j) : ∀ w ∈ er_wd j, w ∈ er_tb := fun w hw => (List.mem_cons.mp hw).elim (fun e => e ▸ h.1) id
theorem er_size {p : Program} {l : Launch} {e : Env} {R : Room} {s : State} {mm : MethodId} {args : Array Value} {below : List Frame} {meth : Method} {c : Code} {T : State} {locs : List Loc} {uc us : Nat} {K : er_K} {sh : er_Sh} {m : er_M} {H : Heap}
    (hb : K.2.1 < s.heap.size) (hz : K.2.1 + 1 + sh.length = s.heap.size + uc) (hW : er_W K sh m s H) (hS : va_S (er_A K) s.heap H locs) (hT : T.heap = H) (X : Stand p l e R s mm args below meth c T locs uc us) : H.size = K.2.1 + 1 + sh.length := by
  have h1 : T.heap.size ≤ s.heap.size + uc := X.same.2.2.1
  rw [hT] at h1
  have h2 := hS.1
  cases hn : sh.length with
  | zero => rw [hn] at hz; omega
  | succ n =>
    have h3 : er_at sh (n + 1) = some (sh.getD n (99, 0, [])) := by
      show sh[n]? = _
      rw [List.getD_eq_getElem?_getD, List.getElem?_eq_getElem (by omega)]
      rfl
    have h4 := (hW.1 _ _ (er_ws_at (K := K) (m := m) h3)).lt
    simp only at h4
    rw [hn] at hz
    omega
theorem er_X_at {K : er_K} {s U : State} {H : Heap} {locs : List Loc} (hb : K.2.1 < s.heap.size) (hX : er_X K s) (hS : va_S (er_A K) s.heap H locs) (hU : U.heap = H) (hW : s.WarmedH U.vm) : er_X K U := by
  refine ⟨?_, hX.2.1, hX.2.2.warm hW⟩
  have h1 := va_X.moved hW.alike hX.1
  rw [hU]
  exact va_X.kept h1 (hS.2.1 _ (Nat.lt_of_le_of_lt hX.2.1 hb) (Nat.not_lt.mpr hX.2.1))
theorem er_blind {K : er_K} {sh : er_Sh} {m : er_M} {av : List Value} : FrameBlind (va_Pc av (fun U => er_W K sh m U U.heap ∧ er_X K U ∧ U.heap.size = K.2.1 + 1 + sh.length)) := by
  intro a U g mk q
  obtain ⟨q0, ⟨q1, q2⟩, ⟨q3, q4, q6⟩, q5⟩ := q
  exact ⟨q0, ⟨q1, va_K.moved (u := U) (U := U.calling g mk a) (Vm.Alike.refl U.vm) q2⟩, ⟨va_X.moved (u := U) (U := U.calling g mk a) (Vm.Alike.refl U.vm) q3, q4, er_N.same (u := U) (U := U.calling g mk a) rfl q6⟩, q5⟩
section ER3
variable {K : er_K} {i j : er_I} {uc us : Nat} {sh : er_Sh} {m : er_M} {pc : Nat} {ls : List (Option er_V)} {st : List er_V} {Z : List Frame → Array Value → State → State → Prop}
theorem er_goes {p : Program} {e : Env} {R : Room} {s : State} {mm : MethodId} {args : Array Value} {below : List Frame} {meth : Method} {c : Code} {H : Heap} {locs : List Loc} {la : Array Slot} {st0 rest : List Value} {mc ms : Nat} {Q : er_Post} {a : Array Value} {G : State → Prop}
    (hr : va_Run p K.1 e R s mm args below meth c H locs uc us mc ms (F0 mm pc la st0) rest (er_Qc K j Q a) (er_A K)) (hS : va_S (er_A K) s.heap H locs)
    (kk : ∀ (v : Option er_V) (sh' : er_Sh) (m' : er_M) (H1 : Heap) (locs1 : List Loc), Q v sh' m' → er_W K sh' m' s H1 → K.2.1 + 1 + sh'.length = H.size + j.2.2.2.2.cells → va_S (er_A K) s.heap H1 locs1 → W p K.1 e R s mm args below meth c H1 locs1 (uc + mc) (us + ms) G (F0 mm (pc + 3) la ((v.map (er_cv K)).toList ++ rest))) : W p K.1 e R s mm args below meth c H locs uc us G (F0 mm pc la st0) := by
  intro T hT X
  obtain ⟨v, st₀, t, T', L, h0, X', hL, e1, e2, ⟨⟨v', sh', m', hv, hp, hw, hz⟩, hzz, hk⟩, stp⟩ := hr T hT X
  cases hv
  rw [h0] at hzz hk hz
  have hw2 : er_W K sh' m' s T'.heap := ⟨by rw [e1]; exact hw.1, va_K.moved (by rw [← e2]; exact X'.warmed.alike.symm) hw.2⟩
  obtain ⟨t2, a1, b1⟩ := kk v' sh' m' T'.heap (locs ++ L) hp hw2 hz
    ⟨Nat.le_trans hS.1 (by rw [e1]; exact hzz), fun q h1 h2 => by rw [e1, hk q (Nat.lt_of_lt_of_le h1 hS.1) h2]; exact hS.2.1 q h1 h2, fun q hq => (List.mem_append.mp hq).elim (hS.2.2 q) (hL q)⟩ T' rfl X'
  exact ⟨t2, stp t2 a1, b1⟩
theorem er_rest8 (h : st.length ≤ 8) {mm : MethodId} {la : Array Slot} {stk : List Value} : 2 * (F0 mm pc la stk).monitorRoom + ((st.map (er_cv K)).map fun v => v.category).sum ≤ 8 := lv_room (by rw [er_catsum]; exact h)
theorem er_pre {p : Program} {s : State} {mm : MethodId} {meth : Method} {c : Code} {args : Array Value} {H : Heap} {locs : List Loc} {as : List er_V} (C : er_Cx K i p mm meth c s args) (hsz : H.size = K.2.1 + 1 + sh.length) (hW : er_W K sh m s H) (hS : va_S (er_A K) s.heap H locs) :
    PreS s H (va_Pc (as.map (er_cv K)) (fun U => er_W K sh m U U.heap ∧ er_X K U ∧ U.heap.size = K.2.1 + 1 + sh.length)) (as.map (er_cv K)) :=
  ⟨er_blind, fun U hU hw => ⟨rfl, ⟨by rw [hU]; exact hW.1, va_K.moved hw.alike hW.2⟩, er_X_at C.2.2.2.2.2.2.2.2.1 C.2.2.2.2.2.2.2.2.2 hS hU hw, by rw [hU]; exact hsz⟩⟩
def er_fits (i j : er_I) : Prop := j.2.2.2.2.frames + 1 ≤ i.2.2.2.2.frames ∧ 8 + (j.2.2.1 + 11) + j.2.2.2.2.locals ≤ i.2.2.2.2.locals
theorem er_callV {idx n b ci N : Nat} {As : List er_V} {rs : List (Option Nat)} {stk : List er_V} {Q : er_Post} (hM : Cond.methodLink i.1.cls idx j.1 ∈ er_tb ∧ Cond.instanceMethod j.1 ∈ er_tb ∧ Cond.selects j.1.cls j.1 j.1 ∈ er_tb) (hw : er_MW j) (hm : er_MD j n) (hst : stk = As.reverse ++ .inr b :: st) (hn : As.length = n) (h8 : st.length ≤ 8) (hb : er_at sh b = some (ci + 5, N, rs)) (hcl : (er_cl[ci]?).map (fun q => q.1) = some j.1.cls) (hR : er_fits i j) (hf : uc + j.2.2.2.2.cells ≤ i.2.2.2.2.cells ∧ us + j.2.2.2.2.slots ≤ i.2.2.2.2.slots) (hd : decode i.2.1 pc = .ok (.invokevirtual idx, 3)) (hS : er_Spec K j (.inr b :: As) sh m Q) (kk : ∀ v sh' m', Q v sh' m' → er_WP K i (uc + j.2.2.2.2.cells) (us + j.2.2.2.2.slots) sh' m' (pc + 3) ls (v.toList ++ st) Z) : er_WP K i uc us sh m pc ls stk Z := by
  have hS0 := hS
  subst hst
  intro p e s mm args below meth c1 H locs la C hz hW hS hl T hT X
  have hsz := er_size C.2.2.2.2.2.2.2.2.1 hz hW hS hT X
  have e2 := er_ws_at (K := K) (m := m) hb
  rw [er_cell_obj] at e2
  obtain ⟨q, hq⟩ : ∃ q, er_cl[ci]? = some q := by
    cases h : er_cl[ci]? with
    | none => rw [h] at hcl; cases hcl
    | some q => exact ⟨q, rfl⟩
  rw [hq] at hcl
  have hcl : q.1 = j.1.cls := Option.some.inj hcl
  have cw : CallW i.2.2.2.2 s args i.1.cls j.1.cls idx j.1 j.2.1 j.2.2.1 j.2.2.2.1 (er_wd j) j.2.2.2.2 j.2.2.2.2.cells j.2.2.2.2.slots n :=
    cwV n C.2.2.2.2.2.2.2.1 (er_gi (fun w h => by
      rcases List.mem_append.mp h with h | h
      · simp only [List.mem_cons, List.not_mem_nil, or_false] at h
        rcases h with rfl | rfl | rfl | rfl
        · exact hM.1
        · exact hM.2.1
        · exact hM.2.2
        · exact hw.2
      · exact er_wd_in hw w h)) rfl rfl rfl ⟨rfl, hm⟩ hR
  have hp := er_pre (as := .inr b :: As) C hsz hW hS
  have hrecv := va_recv (s := s) (H := H) hW.2 hW.1 hq e2
  rw [hcl, ← er_ad_at hb] at hrecv
  refine er_goes (j := j) (va_runV (As := As.map (er_cv K)) (rest := st.map (er_cv K)) ⟨C.1, C.2.1, C.2.2.1, C.2.2.2.2.2.2.1, C.2.2.2.2.2.2.2.1⟩ hS0 cw ⟨hp.1, hrecv, hp.2⟩ rfl (by rw [List.length_map]; exact hn) hl.1 (by simp [er_cv]) (er_rest8 h8) hd hf) hS (fun v sh' m' H1 locs1 hQ hW1 hz1 hS1 => ?_) T hT X
  have := kk v sh' m' hQ p e s mm args below meth c1 H1 locs1 la C (by omega) hW1 hS1 hl
  rw [List.map_append] at this
  cases v <;> exact this
theorem er_callS {idx n : Nat} {As : List er_V} {stk : List er_V} {Q : er_Post} (hM : Cond.methodLink i.1.cls idx j.1 ∈ er_tb ∧ Cond.static j.1 ∈ er_tb) (hown : j.1.cls = i.1.cls) (hw : er_MW j) (hm : er_MD j n) (hst : stk = As.reverse ++ st) (hn : As.length = n) (h8 : st.length ≤ 8) (hR : er_fits i j) (hf : uc + j.2.2.2.2.cells ≤ i.2.2.2.2.cells ∧ us + j.2.2.2.2.slots ≤ i.2.2.2.2.slots) (hd : decode i.2.1 pc = .ok (.invokestatic idx, 3)) (hS : er_Spec K j As sh m Q) (kk : ∀ v sh' m', Q v sh' m' → er_WP K i (uc + j.2.2.2.2.cells) (us + j.2.2.2.2.slots) sh' m' (pc + 3) ls (v.toList ++ st) Z) : er_WP K i uc us sh m pc ls stk Z := by
  have hS0 := hS
  subst hst
  intro p e s mm args below meth c1 H locs la C hz hW hS hl T hT X
  have hsz := er_size C.2.2.2.2.2.2.2.2.1 hz hW hS hT X
  have cw := cwS (R := i.2.2.2.2) (own := i.1.cls) (index := idx) (y := j.1) (bytes := j.2.1) (maxL := j.2.2.1) (ret := j.2.2.2.1) (ws := er_wd j) (rm := j.2.2.2.2) n C.2.2.2.2.2.2.2.1 (er_gi (fun w h => by
      rcases List.mem_append.mp h with h | h
      · simp only [List.mem_cons, List.not_mem_nil, or_false] at h
        rcases h with rfl | rfl | rfl
        · exact hM.1
        · exact hM.2
        · rw [← hown]; exact hw.2
      · exact er_wd_in hw w h)) rfl rfl rfl ⟨hown, hm⟩ hR
  refine er_goes (j := j) (va_runS (As := As.map (er_cv K)) (rest := st.map (er_cv K)) ⟨C.1, C.2.1, C.2.2.1, C.2.2.2.2.2.2.1, C.2.2.2.2.2.2.2.1⟩ hS0 cw (er_pre C hsz hW hS) rfl (by rw [List.length_map]; exact hn) hl.1 (by simp) (er_rest8 h8) hd hf) hS (fun v sh' m' H1 locs1 hQ hW1 hz1 hS1 => ?_) T hT X
  have := kk v sh' m' hQ p e s mm args below meth c1 H1 locs1 la C (by omega) hW1 hS1 hl
  rw [List.map_append] at this
  cases v <;> exact this
theorem er_callN {idx n : Nat} {host : String} {As : List er_V} {stk : List er_V} {Q : er_Post} (hM : (i.1.cls, idx, j.1, host) ∈ er_nw ∧ Cond.static j.1 ∈ er_tb) (hw : er_MW j) (hm : er_MD j n) (hst : stk = As.reverse ++ st) (hn : As.length = n) (h8 : st.length ≤ 8) (hR : er_fits i j) (hf : uc + j.2.2.2.2.cells ≤ i.2.2.2.2.cells ∧ us + j.2.2.2.2.slots ≤ i.2.2.2.2.slots) (hd : decode i.2.1 pc = .ok (.invokestatic idx, 3)) (hS : er_Spec K j As sh m Q) (kk : ∀ v sh' m', Q v sh' m' → er_WP K i (uc + j.2.2.2.2.cells) (us + j.2.2.2.2.slots) sh' m' (pc + 3) ls (v.toList ++ st) Z) : er_WP K i uc us sh m pc ls stk Z := by
  have hS0 := hS
  subst hst
  intro p e s mm args below meth c1 H locs la C hz hW hS hl T hT X
  have hsz := er_size C.2.2.2.2.2.2.2.2.1 hz hW hS hT X
  have hts := C.2.2.2.2.2.2.2.1
  have cw := va_cnB (R := i.2.2.2.2) (own := i.1.cls) (index := idx) (y := j.1) (host := host) (bytes := j.2.1) (maxL := j.2.2.1) (ret := j.2.2.2.1) (ws := er_wd j) (rm := j.2.2.2.2) n hts (er_gi (er_wd_in hw)) rfl rfl rfl (C.2.2.2.2.2.2.2.2.2.2.2.1 _ hM.1) (hts _ hw.2) hm hR
  refine er_goes (j := j) (va_runSN (As := As.map (er_cv K)) (rest := st.map (er_cv K)) ⟨C.1, C.2.1, C.2.2.1, C.2.2.2.2.2.2.1, C.2.2.2.2.2.2.2.1⟩ hS0 ⟨cw, hts _ hM.2, trivial⟩ (er_pre C hsz hW hS) rfl (by rw [List.length_map]; exact hn) hl.1 (by simp) (er_rest8 h8) hd hf) hS (fun v sh' m' H1 locs1 hQ hW1 hz1 hS1 => ?_) T hT X
  have := kk v sh' m' hQ p e s mm args below meth c1 H1 locs1 la C (by omega) hW1 hS1 hl
  rw [List.map_append] at this
  cases v <;> exact this
theorem er_callI {idx n b : Nat} {As : List er_V} {stk : List er_V} {Q : er_Post} (hM : Cond.methodLink i.1.cls idx j.1 ∈ er_tb ∧ Cond.instanceMethod j.1 ∈ er_tb) (hin : j.1.name = "<init>") (hret : j.2.2.2.1 = none) (hw : er_MW j) (hm : er_MD j n) (hst : stk = As.reverse ++ .inr b :: st) (hn : As.length = n) (h8 : st.length ≤ 8) (hR : er_fits i j) (hf : uc + j.2.2.2.2.cells ≤ i.2.2.2.2.cells ∧ us + j.2.2.2.2.slots ≤ i.2.2.2.2.slots) (hd : decode i.2.1 pc = .ok (.invokespecial idx, 3)) (hS : er_Spec K j (.inr b :: As) sh m Q) (kk : ∀ v sh' m', Q v sh' m' → er_WP K i (uc + j.2.2.2.2.cells) (us + j.2.2.2.2.slots) sh' m' (pc + 3) ls (v.toList ++ st) Z) : er_WP K i uc us sh m pc ls stk Z := by
  have hS0 := hS
  subst hst
  intro p e s mm args below meth c1 H locs la C hz hW hS hl T hT X
  have hsz := er_size C.2.2.2.2.2.2.2.2.1 hz hW hS hT X
  have hts := C.2.2.2.2.2.2.2.1
  have cw := cwI (R := i.2.2.2.2) (own := i.1.cls) (index := idx) (y := j.1) (bytes := j.2.1) (maxL := j.2.2.1) (ws := er_wd j) (rm := j.2.2.2.2) (ws' := er_tb) n hts (er_gi (er_wd_in hw)) (by unfold er_wd; rw [hret]) rfl rfl (hts _ hw.2) (hts _ hM.1) (hts _ hM.2) hin hm hR
  refine er_goes (j := j) (va_runI (b := er_ad K b) (As := As.map (er_cv K)) (rest := st.map (er_cv K)) ⟨C.1, C.2.1, C.2.2.1, C.2.2.2.2.2.2.1, C.2.2.2.2.2.2.2.1⟩ hS0 cw (er_pre (as := .inr b :: As) C hsz hW hS) rfl (by rw [List.length_map]; exact hn) hl.1 (by simp [er_cv]) (er_rest8 h8) hd hf) hS (fun v sh' m' H1 locs1 hQ hW1 hz1 hS1 => ?_) T hT X
  have := kk v sh' m' hQ p e s mm args below meth c1 H1 locs1 la C (by omega) hW1 hS1 hl
  rw [List.map_append] at this
  cases v <;> exact this
theorem er_obj {idx b : Nat} (hM : Cond.methodLink i.1.cls idx objectInit ∈ er_tb ∧ Cond.instanceMethod objectInit ∈ er_tb ∧ Cond.code objectInit ⟨#[0xb1]⟩ 1 none ∈ er_tb) (h8 : st.length ≤ 8) (hR : 1 ≤ i.2.2.2.2.frames ∧ 20 ≤ i.2.2.2.2.locals) (hd : decode i.2.1 pc = .ok (.invokespecial idx, 3)) (kk : er_WP K i uc us sh m (pc + 3) ls st Z) : er_WP K i uc us sh m pc ls (.inr b :: st) Z := by
  intro p e s mm args below meth c1 H locs la C hz hW hS hl
  have hts := C.2.2.2.2.2.2.2.1
  refine W.objInit (a := er_ad K b) (rest := st.map (er_cv K)) C.1 C.2.1 C.2.2.2.2.2.2.1 (hts _ hM.1) (hts _ hM.2.1) (hts _ hM.2.2) rfl (by rw [C.2.2.1]; exact hl.1) rfl hd hR.1 ?_ (kk p e s mm args below meth c1 H locs la C hz hW hS hl)
  have := er_rest8 (K := K) (pc := pc) (mm := mm) (la := la) (stk := (Sum.inr b :: st).map (er_cv K)) h8
  have h20 := hR.2
  omega
theorem er_ret_fr {s t : State} {H : Heap} {locs : List Loc} (hS : va_S (er_A K) s.heap H locs) (ht : t.heap = H) : va_F (er_A K) s t := hS.F ht
theorem er_qc {p : Program} {s : State} {mm : MethodId} {meth : Method} {c : Code} {args : Array Value} {H : Heap} {locs : List Loc} {Q : er_Post} {v : Option er_V} (C : er_Cx K i p mm meth c s args) (hz : K.2.1 + 1 + sh.length = s.heap.size + uc) (hu : uc = i.2.2.2.2.cells) (hW : er_W K sh m s H) (hS : va_S (er_A K) s.heap H locs) (hq : Q v sh m) : ∀ t : State, t.heap = H → s.WarmedH t.vm → er_Qc K i Q args s (.returned (v.map (er_cv K))) t :=
  fun t ht hw => ⟨⟨v, sh, m, rfl, hq, ⟨by rw [ht]; exact hW.1, va_K.moved hw.alike hW.2⟩, by omega⟩, hS.F ht⟩
theorem er_iret {x : Int} {Q : er_Post} (hret : i.2.2.2.1 = some .int) (hu : uc = i.2.2.2.2.cells) (hu2 : us ≤ i.2.2.2.2.slots) (hd : decode i.2.1 pc = .ok (.ireturn, 1)) (hq : Q (some (.inl x)) sh m) : er_WP K i uc us sh m pc ls [.inl x] (er_Z K i Q) := by
  intro p e s mm args below meth c1 H locs la C hz hW hS hl
  refine W.widen (k := i.2.2.2.2.cells) (n := i.2.2.2.2.slots) (by omega) hu2 ?_
  exact W.iret (v := Int32.ofInt x) C.1 C.2.1 (C.2.2.2.1.trans hret) (er_qc (v := some (.inl x)) C hz hu hW hS hq) hS.2.2 hd C.2.2.2.2.1
theorem er_zret {x : Int} {Q : er_Post} (hret : i.2.2.2.1 = some .boolean) (hx : x = 0 ∨ x = 1) (hu : uc = i.2.2.2.2.cells) (hu2 : us ≤ i.2.2.2.2.slots) (hd : decode i.2.1 pc = .ok (.ireturn, 1)) (hq : Q (some (.inl x)) sh m) : er_WP K i uc us sh m pc ls [.inl x] (er_Z K i Q) := by
  intro p e s mm args below meth c1 H locs la C hz hW hS hl
  refine W.widen (k := i.2.2.2.2.cells) (n := i.2.2.2.2.slots) (by omega) hu2 ?_
  exact W.zret (v := Int32.ofInt x) C.1 C.2.1 (C.2.2.2.1.trans hret) (by rcases hx with rfl | rfl <;> rfl) (er_qc (v := some (.inl x)) C hz hu hW hS hq) hS.2.2 hd C.2.2.2.2.1
theorem er_vret {Q : er_Post} (hret : i.2.2.2.1 = none) (hu : uc = i.2.2.2.2.cells) (hu2 : us ≤ i.2.2.2.2.slots) (hd : decode i.2.1 pc = .ok (.return_, 1)) (hq : Q none sh m) : er_WP K i uc us sh m pc ls [] (er_Z K i Q) := by
  intro p e s mm args below meth c1 H locs la C hz hW hS hl
  refine W.widen (k := i.2.2.2.2.cells) (n := i.2.2.2.2.slots) (by omega) hu2 ?_
  exact W.vret C.1 C.2.1 (C.2.2.2.1.trans hret) (er_qc (v := none) C hz hu hW hS hq) hS.2.2 hd C.2.2.2.2.1
theorem er_aret {r : Nat} {Q : er_Post} {nm : String} (hret : i.2.2.2.1 = some (.object nm)) (hu : uc = i.2.2.2.2.cells) (hu2 : us ≤ i.2.2.2.2.slots) (hd : decode i.2.1 pc = .ok (.areturn, 1)) (hq : Q (some (.inr r)) sh m) : er_WP K i uc us sh m pc ls [.inr r] (er_Z K i Q) := by
  intro p e s mm args below meth c1 H locs la C hz hW hS hl
  refine W.widen (k := i.2.2.2.2.cells) (n := i.2.2.2.2.slots) (by omega) hu2 ?_
  exact W.aret (v := .ref (er_ad K r)) C.1 C.2.1 (C.2.2.2.1.trans hret) (Or.inl ⟨_, rfl⟩) (Or.inr ⟨_, rfl⟩) (er_qc (v := some (.inr r)) C hz hu hW hS hq) hS.2.2 hd C.2.2.2.2.1
theorem er_sl_len (as : List er_V) : (lg_sl (as.map (er_cv K))).length = as.length := by
  induction as with
  | nil => rfl
  | cons a t ih =>
    simp only [lg_sl, List.map_cons, List.flatMap_cons, er_cat] at ih ⊢
    simp [ih]
theorem er_args_mem {q : Nat × Value} : ∀ (as : List er_V) (n k : Nat), q ∈ er_lv K n (as.map some ++ List.replicate k none) → q ∈ lv_args n (as.map (er_cv K)) := by
  intro as
  induction as with
  | nil =>
    intro n k h
    exfalso
    obtain ⟨j, v, h1, -⟩ := er_lv_mem _ _ h
    rw [List.map_nil, List.nil_append, List.getElem?_replicate] at h1
    split at h1 <;> simp at h1
  | cons a t ih =>
    intro n k h
    rcases List.mem_cons.mp h with h | h
    · rw [h]
      exact List.mem_cons_self
    · have := ih (n + 1) k h
      simp only [List.map_cons, lv_args, er_cat]
      exact List.mem_cons_of_mem _ this
theorem er_start {as : List er_V} {Q : er_Post} (hpl : plainName i.1.cls = true) (hn : as.length ≤ i.2.2.1) (k : er_WP K i 0 0 sh m 0 (as.map some ++ List.replicate (i.2.2.1 - as.length) none) [] (er_Z K i Q)) : er_Spec K i as sh m Q := by
  refine Met.ofW (cc := i.2.1) (maxL := i.2.2.1) (ret := i.2.2.2.1) (ws' := er_tb) hpl rfl ?_
  intro p e s mm args below meth c s₁ B hml hv
  obtain ⟨rfl, hW, hX, hsz⟩ := hv
  have hts := atoms_spec (ws := er_wd i) B.pre
  have hl := lv_entry (as.map (er_cv K)) (n := i.2.2.1) (by rw [er_sl_len]; exact hn)
  rw [lg_entry_eq]
  refine k p e s mm _ below meth c s.heap [] _ ⟨B.exec, B.bytes, hml, B.returns, B.notSynchronized, (name_of_methodNamed B.named B.method).1, findClass_of_methodNamed B.named, fun w hw => hts w (List.mem_cons_of_mem _ hw), by omega, hX⟩ (by omega) hW va_S.rf ⟨hl.1, hl.2.1, fun q hq => hl.2.2 q (er_args_mem as 0 _ hq)⟩
theorem er_tabAt {dflt lo hi : Int} {offs : Array Int} {len tgt : Nat} {off x : Int} (n : Int) (hx : x = n) (hi2 : er_in n) (h1 : lo ≤ n) (h2 : n ≤ hi) (ho : offs[(n - lo).toNat]? = some off) (ht : (pc : Int) + off = (tgt : Int)) (hd : decode i.2.1 pc = .ok (.tableswitch dflt lo hi offs, len)) (k : er_WP K i uc us sh m tgt ls st Z) : er_WP K i uc us sh m pc ls (.inl x :: st) Z := by
  subst hx
  intro p e s mm args below meth c1 H locs la C hz hW hS hl
  exact lv_tableIn C.1 C.2.1 hd (by rw [er_toInt hi2]; omega) (by rw [er_toInt hi2]; omega) (by rw [er_toInt hi2]; exact ho) ht (k p e s mm args below meth c1 H locs la C hz hW hS hl)
theorem er_tabOut {dflt lo hi : Int} {offs : Array Int} {len tgt : Nat} {x : Int} (hi2 : er_in x) (h1 : x < lo ∨ hi < x) (ht : (pc : Int) + dflt = (tgt : Int)) (hd : decode i.2.1 pc = .ok (.tableswitch dflt lo hi offs, len)) (k : er_WP K i uc us sh m tgt ls st Z) : er_WP K i uc us sh m pc ls (.inl x :: st) Z := by
  intro p e s mm args below meth c1 H locs la C hz hW hS hl
  exact lv_tableOut C.1 C.2.1 hd (by rw [er_toInt hi2]; exact h1) ht (k p e s mm args below meth c1 H locs la C hz hW hS hl)
theorem er_look {dflt : Int} {ps : Array (Int × Int)} {len tgt : Nat} {off x : Int} (hi2 : er_in x) (hp : (ps.toList.zip (ps.toList.drop 1)).all (fun (a, next) => a.1 < next.1) = true) (ho : Op.lookupswitch.offset ps.toList dflt x = off) (ht : (pc : Int) + off = (tgt : Int)) (hd : decode i.2.1 pc = .ok (.lookupswitch dflt ps, len)) (k : er_WP K i uc us sh m tgt ls st Z) : er_WP K i uc us sh m pc ls (.inl x :: st) Z := by
  intro p e s mm args below meth c1 H locs la C hz hW hS hl
  exact lv_lookup C.1 C.2.1 hd hp (by rw [er_toInt hi2]; exact ho) ht (k p e s mm args below meth c1 H locs la C hz hW hS hl)
theorem er_min {idx : Nat} {x y : Int} (hM : Cond.methodLink i.1.cls idx Lib.Math.min.name ∈ er_tb ∧ Cond.static Lib.Math.min.name ∈ er_tb ∧ Cond.initialized "java/lang/Math" ∈ er_tb ∧ Cond.code Lib.Math.min.name Lib.Math.min.code 2 (some .int) ∈ er_tb) (hx : er_in x) (hy : er_in y) (h8 : st.length ≤ 8) (hR : 1 ≤ i.2.2.2.2.frames ∧ 21 ≤ i.2.2.2.2.locals) (hu : uc ≤ i.2.2.2.2.cells ∧ us ≤ i.2.2.2.2.slots) (hd : decode i.2.1 pc = .ok (.invokestatic idx, 3)) (kk : er_WP K i uc us sh m (pc + 3) ls (.inl (min x y) :: st) Z) : er_WP K i uc us sh m pc ls (.inl y :: .inl x :: st) Z := by
  intro p e s mm args below meth c1 H locs la C hz hW hS hl
  have hts := C.2.2.2.2.2.2.2.1
  have h := kk p e s mm args below meth c1 H locs la C hz hW hS hl
  refine va_mmin C.1 C.2.1 (C.2.2.1.trans hl.1.symm) C.2.2.2.2.2.2.1 (hts _ hM.1) (hts _ hM.2.1) (hts _ hM.2.2.1) (hts _ hM.2.2.2) hR.1 (by rw [er_catsum]; have := hR.2; omega) hu.1 hu.2 hd ?_
  have e1 : (if Int32.ofInt y < Int32.ofInt x then Int32.ofInt y else Int32.ofInt x) = Int32.ofInt (min x y) := by
    by_cases hc : y < x
    · rw [if_pos ((er_ofInt_lt hy hx).mpr hc)]
      congr 1
      omega
    · rw [if_neg (fun z => hc ((er_ofInt_lt hy hx).mp z))]
      congr 1
      omega
  rw [e1]
  exact h
theorem er_abs {idx : Nat} {x : Int} (hM : Cond.methodLink i.1.cls idx Lib.Math.abs.name ∈ er_tb ∧ Cond.static Lib.Math.abs.name ∈ er_tb ∧ Cond.initialized "java/lang/Math" ∈ er_tb ∧ Cond.code Lib.Math.abs.name Lib.Math.abs.code 1 (some .int) ∈ er_tb) (hx : er_in x) (h8 : st.length ≤ 8) (hR : 1 ≤ i.2.2.2.2.frames ∧ 21 ≤ i.2.2.2.2.locals) (hu : uc ≤ i.2.2.2.2.cells ∧ us ≤ i.2.2.2.2.slots) (hd : decode i.2.1 pc = .ok (.invokestatic idx, 3)) (kk : er_WP K i uc us sh m (pc + 3) ls (.inl (max x (-x)) :: st) Z) : er_WP K i uc us sh m pc ls (.inl x :: st) Z := by
  intro p e s mm args below meth c1 H locs la C hz hW hS hl
  have hts := C.2.2.2.2.2.2.2.1
  have h := kk p e s mm args below meth c1 H locs la C hz hW hS hl
  refine va_mabs C.1 C.2.1 (C.2.2.1.trans hl.1.symm) C.2.2.2.2.2.2.1 (hts _ hM.1) (hts _ hM.2.1) (hts _ hM.2.2.1) (hts _ hM.2.2.2) hR.1 (by rw [er_catsum]; have := hR.2; omega) hu.1 hu.2 hd ?_
  have e1 : (if 0 ≤ Int32.ofInt x then Int32.ofInt x else 0 - Int32.ofInt x) = Int32.ofInt (max x (-x)) := by
    by_cases hc : 0 ≤ x
    · rw [if_pos (by rw [← er_zero]; exact (er_ofInt_le ⟨by omega, by omega⟩ hx).mpr hc)]
      congr 1
      omega
    · rw [if_neg (fun z => hc (by rw [← er_zero] at z; exact (er_ofInt_le ⟨by omega, by omega⟩ hx).mp z)), ← er_zero, ← Int32.ofInt_sub]
      congr 1
      omega
  rw [e1]
  exact h
theorem er_copy {idx k na nb a b : Nat} {ra rb : List (Option Nat)} {n : Int} (hM : Cond.methodLink i.1.cls idx arraycopyName ∈ er_tb ∧ Cond.native arraycopyName ∈ er_tb ∧ Cond.static arraycopyName ∈ er_tb ∧ Cond.initialized "java/lang/System" ∈ er_tb) (hk : k < 2) (ha : er_at sh a = some (k, na, ra)) (hb : er_at sh b = some (k, nb, rb)) (h0 : 0 ≤ n) (h1 : n ≤ na) (h2 : n ≤ nb) (h3 : n < 2147483648) (hfit : k = 1 → ∀ j : Int, 0 ≤ j → j < n → m a j = 0 ∨ m a j = 1) (h8 : st.length ≤ 8) (hR : 1 ≤ i.2.2.2.2.frames ∧ 26 ≤ i.2.2.2.2.locals) (hd : decode i.2.1 pc = .ok (.invokestatic idx, 3)) (kk : er_WP K i uc us sh (er_cpy m a b n) (pc + 3) ls st Z) : er_WP K i uc us sh m pc ls (.inl n :: .inl 0 :: .inr b :: .inl 0 :: .inr a :: st) Z := by
  intro p e s mm args below meth c1 H locs la C hz hW hS hl
  have hts := C.2.2.2.2.2.2.2.1
  have e1 := er_ws_at (K := K) (m := m) ha
  rw [er_cell_n _ _ _ _ _ _ (by omega)] at e1
  have e2 := er_ws_at (K := K) (m := m) hb
  rw [er_cell_n _ _ _ _ _ _ (by omega)] at e2
  have hn : er_in n := ⟨by omega, h3⟩
  have g2 : (Int32.ofInt n).toNatClampNeg = n.toNat := by rw [← Int32.toNat_toInt, er_toInt hn]
  have g0 : (Int32.ofInt 0).toNatClampNeg = 0 := by decide
  show W _ _ _ _ _ _ _ _ _ _ _ _ _ _ _ (F0 mm pc la (.int (Int32.ofInt n) :: .int (Int32.ofInt 0) :: .ref (er_ad K b) :: .int (Int32.ofInt 0) :: .ref (er_ad K a) :: st.map (er_cv K)))
  rw [er_ad_at ha, er_ad_at hb]
  have hty : (er_tys K)[k]? = some (K.2.2.2.1 k, er_ty k) := by
    rcases (by omega : k = 0 ∨ k = 1) with rfl | rfl <;> rfl
  refine va_copyi (ty := er_ty k) C.1 C.2.1 (C.2.2.1.trans hl.1.symm) C.2.2.2.2.2.2.1 (hts _ hM.1) (hts _ hM.2.1) (hts _ hM.2.2.1) (hts _ hM.2.2.2) hW.2 hW.1 (er_ws_D K sh m) hS (a - 1) (b - 1) k k e1 e2 hty hty ?_ (by decide) (by decide) ?_ (by rw [g0, g2]; omega) (by rw [g0, g2]; omega) ?_ hR.1 ?_ hd (fun H1 locs1 hP1 _ hS1 => ?_)
  · rcases (by omega : k = 0 ∨ k = 1) with rfl | rfl <;> rfl
  · intro h
    rw [← er_zero, er_ofInt_lt hn ⟨by omega, by omega⟩] at h
    omega
  · intro q hq
    rw [g0, Nat.zero_add]
    rw [g2] at hq
    rcases (by omega : k = 0 ∨ k = 1) with rfl | rfl
    · rfl
    · rcases hfit rfl q (by omega) (by omega) with h | h <;> rw [h] <;> rfl
  · rw [er_catsum]
    have e5 : nativeFrameWords "java/lang/System" "arraycopy" 5 = 7 := by decide
    rw [e5]
    have := hR.2
    omega
  · rw [g0, g2] at hP1
    have e4 : va_cpy (fun j : Nat => Int32.ofInt (m a j)) (fun j : Nat => Int32.ofInt (m b j)) 0 0 n.toNat = fun j : Nat => Int32.ofInt (er_cpy m a b n b j) := by
      funext q
      unfold va_cpy er_cpy
      by_cases hq : q < n.toNat
      · rw [if_pos ⟨Nat.zero_le _, by omega⟩, if_pos ⟨rfl, by omega, by omega⟩]
        simp
      · rw [if_neg (by omega), if_neg (by omega)]
    rw [e4, er_ws_up (m' := er_cpy m a b n) hb (er_cell_n _ _ _ _ _ _ (by omega)).symm (fun c' hc' => by funext q; simp [er_cpy, hc'])] at hP1
    exact kk p e s mm args below meth c1 H1 locs1 la C hz ⟨hP1, hW.2⟩ hS1 hl
end ER3
