/-! values that are any; longs beside the ints (er_WX): rows printed by wip/p29/gen70.py -/
theorem er_int (v : Int32) : er_in v.toInt := ⟨by have := Int32.le_toInt v; omega, by have := Int32.toInt_lt v; omega⟩
section ER70
variable {K : er_K} {i : er_I} {uc us : Nat} {sh : er_Sh} {m : er_M} {pc : Nat} {ls : List (Option er_V)} {st : List er_V} {lx : List (Nat × Value)} {sx : List Value} {Z : List Frame → Array Value → State → State → Prop}
theorem er_iandN {x mk : Int} (kb : Nat) (h1 : (Int32.ofInt mk).toBitVec.toNat = 2 ^ kb - 1) (h2 : mk + 1 = ((2 ^ kb : Nat) : Int)) (hd : decode i.2.1 pc = .ok (.iand, 1)) (kk : ∀ y : Int, 0 ≤ y → y < mk + 1 → er_WP K i uc us sh m (pc + 1) ls (.inl y :: st) Z) : er_WP K i uc us sh m pc ls (.inl mk :: .inl x :: st) Z := by
  intro p e s mm args below meth c H locs la C hz hW hS hl
  obtain ⟨j, hj, e1⟩ := pk_andE (Int32.ofInt x) (m := Int32.ofInt mk) kb h1
  have h := kk (j : Int) (by omega) (by rw [h2]; exact Int.ofNat_lt.mpr hj) p e s mm args below meth c H locs la C hz hW hS hl
  have e2 : er_cv K (.inl (j : Int)) = .int (Int32.ofInt x &&& Int32.ofInt mk) := congrArg Value.int (by rw [e1]; exact Int32.ofInt_eq_ofNat)
  rw [List.map_cons, e2] at h
  exact lv_iand C.1 C.2.1 hd h
theorem er_ishrN {x z : Int} (hd : decode i.2.1 pc = .ok (.ishr, 1)) (kk : ∀ y : Int, er_in y → er_WP K i uc us sh m (pc + 1) ls (.inl y :: st) Z) : er_WP K i uc us sh m pc ls (.inl z :: .inl x :: st) Z := by
  intro p e s mm args below meth c H locs la C hz hW hS hl
  have h := kk (Int32.ofInt x >>> (Int32.ofInt z &&& 31)).toInt (er_int _) p e s mm args below meth c H locs la C hz hW hS hl
  have e2 : er_cv K (.inl (Int32.ofInt x >>> (Int32.ofInt z &&& 31)).toInt) = .int (Int32.ofInt x >>> (Int32.ofInt z &&& 31)) := congrArg Value.int (Int32.ofInt_toInt _)
  rw [List.map_cons, e2] at h
  exact lv_ishr C.1 C.2.1 hd h
/-- from this instruction on, with longs lx among the locals and sx under the stack, the frame comes to Z -/
def er_WX (K : er_K) (i : er_I) (uc us : Nat) (sh : er_Sh) (m : er_M) (pc : Nat) (ls : List (Option er_V)) (st : List er_V) (lx : List (Nat × Value)) (sx : List Value) (Z : List Frame → Array Value → State → State → Prop) : Prop :=
  ∀ (p : Program) (e : Env) (s : State) (mm : MethodId) (args : Array Value) (below : List Frame) (meth : Method) (c : Code) (H : Heap) (locs : List Loc) (la : Array Slot),
    er_Cx K i p mm meth c s args → K.2.1 + 1 + sh.length = s.heap.size + uc → er_W K sh m s H → va_S (er_A K) s.heap H locs → lv_has la i.2.2.1 (er_lv K 0 ls ++ lx) →
    W p K.1 e i.2.2.2.2 s mm args below meth c H locs uc us (Z below args s) (F0 mm pc la (st.map (er_cv K) ++ sx))
theorem er_WX.of (h : er_WX K i uc us sh m pc ls st [] [] Z) : er_WP K i uc us sh m pc ls st Z := by
  intro p e s mm args below meth c H locs la C hz hW hS hl
  have := h p e s mm args below meth c H locs la C hz hW hS (by rw [List.append_nil]; exact hl)
  rw [List.append_nil] at this
  exact this
theorem er_WP.wx (h : er_WP K i uc us sh m pc ls st Z) : er_WX K i uc us sh m pc ls st lx [] Z := by
  intro p e s mm args below meth c H locs la C hz hW hS hl
  rw [List.append_nil]
  exact h p e s mm args below meth c H locs la C hz hW hS ⟨hl.1, hl.2.1, fun q hq => hl.2.2 q (List.mem_append_left _ hq)⟩
theorem ex_has_get {la : Array Slot} {n : Nat} (h : lv_has la n (er_lv K 0 ls ++ lx)) {k : Nat} {v : er_V} (hk : ls[k]? = some (some v)) : la[k]? = some (.val (er_cv K v)) := er_has_get (K := K) (n := n) (ls := ls) ⟨h.1, h.2.1, fun q hq => h.2.2 q (List.mem_append_left _ hq)⟩ hk
theorem ex_has_set {la : Array Slot} {n : Nat} (h : lv_has la n (er_lv K 0 ls ++ lx)) {k : Nat} (hk : k < n) (hx : lx.all (fun q => q.1 != k && q.1 + 1 != k) = true) (v : er_V) : ∃ la', storeLocals la k (er_cv K v) = some la' ∧ lv_has la' n (er_lv K 0 (ls.set k (some v)) ++ lx) := by
  obtain ⟨la', h1, h2⟩ := lv_store1 h hk (er_cat K v)
  refine ⟨la', h1, h2.1, h2.2.1, fun q hq => ?_⟩
  rcases List.mem_append.mp hq with hq | hq
  · obtain ⟨j, w, h3, rfl⟩ := er_lv_mem _ 0 hq
    apply h2.2.2
    by_cases hj : j = k
    · subst hj
      by_cases hl : j < ls.length
      · rw [List.getElem?_set_self hl] at h3
        have : w = v := by simpa using h3.symm
        rw [this, Nat.zero_add]
        exact List.mem_cons_self
      · rw [List.getElem?_eq_none (by simp; omega)] at h3
        cases h3
    · rw [List.getElem?_set_ne (Ne.symm hj)] at h3
      apply List.mem_cons_of_mem
      apply List.mem_filter.mpr
      refine ⟨List.mem_append_left _ (er_lv_get ls j 0 h3), ?_⟩
      simp [er_cat, hj]
  · have h4 := List.all_eq_true.mp hx q hq
    simp only [Bool.and_eq_true, bne_iff_ne] at h4
    apply h2.2.2
    apply List.mem_cons_of_mem
    apply List.mem_filter.mpr
    refine ⟨List.mem_append_right _ hq, ?_⟩
    simp [h4.1, h4.2]
theorem ex_forget (ls2 : List (Option er_V)) (h : er_wk ls2 ls) (lx2 : List (Nat × Value)) (hx : ∀ q ∈ lx2, q ∈ lx) (k : er_WX K i uc us sh m pc ls2 st lx2 sx Z) : er_WX K i uc us sh m pc ls st lx sx Z := by
  intro p e s mm args below meth c H locs la C hz hW hS hl
  have h1 : lv_has la i.2.2.1 (er_lv K 0 ls) := ⟨hl.1, hl.2.1, fun q hq => hl.2.2 q (List.mem_append_left _ hq)⟩
  have h2 := er_has_sub h1 (er_wk_spec _ _ h)
  exact k p e s mm args below meth c H locs la C hz hW hS ⟨hl.1, hl.2.1, fun q hq => (List.mem_append.mp hq).elim (h2.2.2 q) (fun z => hl.2.2 q (List.mem_append_right _ (hx q z)))⟩
theorem ex_iconst {n : Int} (hd : decode i.2.1 pc = .ok (.iconst n, 1)) (k : er_WX K i uc us sh m (pc + 1) ls (.inl n :: st) lx sx Z) : er_WX K i uc us sh m pc ls (st) lx sx Z := by
  intro p e s mm args below meth c H locs la C hz hW hS hl
  exact lv_iconst C.1 C.2.1 hd rfl (k p e s mm args below meth c H locs la C hz hW hS hl)
theorem ex_bipush {n : Int} (hv : (Int8.ofInt n).toInt32 = Int32.ofInt n) (hd : decode i.2.1 pc = .ok (.bipush n, 2)) (k : er_WX K i uc us sh m (pc + 2) ls (.inl n :: st) lx sx Z) : er_WX K i uc us sh m pc ls (st) lx sx Z := by
  intro p e s mm args below meth c H locs la C hz hW hS hl
  exact lv_bipush C.1 C.2.1 hd hv (k p e s mm args below meth c H locs la C hz hW hS hl)
theorem ex_iload_n {k : Fin 4} {x : Int} {n : Nat} (hn : (k : Nat) = n) (hl : ls[n]? = some (some (.inl x))) (hd : decode i.2.1 pc = .ok (.iload_n k, 1)) (kk : er_WX K i uc us sh m (pc + 1) ls (.inl x :: st) lx sx Z) : er_WX K i uc us sh m pc ls st lx sx Z := by
  have hl0 := hl
  intro p e s mm args below meth c H locs la C hz hW hS hl
  exact lv_iload_n C.1 C.2.1 hd hn (ex_has_get hl hl0) (kk p e s mm args below meth c H locs la C hz hW hS hl)
theorem ex_iload {x : Int} {n : Nat} (hl : ls[n]? = some (some (.inl x))) (hd : decode i.2.1 pc = .ok (.iload n, 2)) (kk : er_WX K i uc us sh m (pc + 2) ls (.inl x :: st) lx sx Z) : er_WX K i uc us sh m pc ls st lx sx Z := by
  have hl0 := hl
  intro p e s mm args below meth c H locs la C hz hW hS hl
  exact lv_iload C.1 C.2.1 hd (ex_has_get hl hl0) (kk p e s mm args below meth c H locs la C hz hW hS hl)
theorem ex_aload_n {k : Fin 4} {x : Nat} {n : Nat} (hn : (k : Nat) = n) (hl : ls[n]? = some (some (.inr x))) (hd : decode i.2.1 pc = .ok (.aload_n k, 1)) (kk : er_WX K i uc us sh m (pc + 1) ls (.inr x :: st) lx sx Z) : er_WX K i uc us sh m pc ls st lx sx Z := by
  have hl0 := hl
  intro p e s mm args below meth c H locs la C hz hW hS hl
  exact lv_aload_n C.1 C.2.1 hd hn (ex_has_get hl hl0) (kk p e s mm args below meth c H locs la C hz hW hS hl)
theorem ex_iadd {x y : Int}  (hd : decode i.2.1 pc = .ok (.iadd, 1)) (k : er_WX K i uc us sh m (pc + 1) ls (.inl (x + y) :: st) lx sx Z) : er_WX K i uc us sh m pc ls (.inl y :: .inl x :: st) lx sx Z := by
  intro p e s mm args below meth c H locs la C hz hW hS hl
  have h := k p e s mm args below meth c H locs la C hz hW hS hl
  have e : er_cv K (.inl (x + y)) = .int (Int32.ofInt x + Int32.ofInt y) := congrArg Value.int (Int32.ofInt_add x y)
  rw [List.map_cons, e] at h
  exact lv_iadd C.1 C.2.1 hd h
theorem ex_isub {x y : Int}  (hd : decode i.2.1 pc = .ok (.isub, 1)) (k : er_WX K i uc us sh m (pc + 1) ls (.inl (x - y) :: st) lx sx Z) : er_WX K i uc us sh m pc ls (.inl y :: .inl x :: st) lx sx Z := by
  intro p e s mm args below meth c H locs la C hz hW hS hl
  have h := k p e s mm args below meth c H locs la C hz hW hS hl
  have e : er_cv K (.inl (x - y)) = .int (Int32.ofInt x - Int32.ofInt y) := congrArg Value.int (Int32.ofInt_sub x y)
  rw [List.map_cons, e] at h
  exact lv_isub C.1 C.2.1 hd h
theorem ex_idiv {x y : Int} (hx : 0 ≤ x) (hx1 : x < 2147483648) (hy : 0 < y) (hy1 : y < 2147483648) (hd : decode i.2.1 pc = .ok (.idiv, 1)) (k : er_WX K i uc us sh m (pc + 1) ls (.inl (x / y) :: st) lx sx Z) : er_WX K i uc us sh m pc ls (.inl y :: .inl x :: st) lx sx Z := by
  intro p e s mm args below meth c H locs la C hz hW hS hl
  have h := k p e s mm args below meth c H locs la C hz hW hS hl
  have e1 : er_cv K (.inl (x / y)) = .int (Int32.ofInt x / Int32.ofInt y) := congrArg Value.int (er_div_eq hx hx1 hy hy1).symm
  rw [List.map_cons, e1] at h
  exact lv_idiv C.1 C.2.1 hd (er_ne0 hy hy1) h
theorem ex_irem {x y : Int} (hx : 0 ≤ x) (hx1 : x < 2147483648) (hy : 0 < y) (hy1 : y < 2147483648) (hd : decode i.2.1 pc = .ok (.irem, 1)) (k : er_WX K i uc us sh m (pc + 1) ls (.inl (x % y) :: st) lx sx Z) : er_WX K i uc us sh m pc ls (.inl y :: .inl x :: st) lx sx Z := by
  intro p e s mm args below meth c H locs la C hz hW hS hl
  have h := k p e s mm args below meth c H locs la C hz hW hS hl
  have e1 : er_cv K (.inl (x % y)) = .int (Int32.ofInt x - Int32.ofInt x / Int32.ofInt y * Int32.ofInt y) := by
    rw [er_div_eq hx hx1 hy hy1, ← Int32.ofInt_mul, ← Int32.ofInt_sub]
    have : x % y = x - x / y * y := by rw [Int.emod_def, Int.mul_comm]
    rw [← this]
    rfl
  rw [List.map_cons, e1] at h
  exact lv_irem C.1 C.2.1 hd (er_ne0 hy hy1) h
theorem ex_pop {v : er_V} (hd : decode i.2.1 pc = .ok (.pop, 1)) (k : er_WX K i uc us sh m (pc + 1) ls (st) lx sx Z) : er_WX K i uc us sh m pc ls (v :: st) lx sx Z := by
  intro p e s mm args below meth c H locs la C hz hW hS hl
  exact lv_pop C.1 C.2.1 hd (er_cat K v) (k p e s mm args below meth c H locs la C hz hW hS hl)
theorem ex_goto {off : Int} {tgt : Nat} (ht : (pc : Int) + off = (tgt : Int)) (hd : decode i.2.1 pc = .ok (.goto off, 3)) (k : er_WX K i uc us sh m tgt ls st lx sx Z) : er_WX K i uc us sh m pc ls st lx sx Z := by
  intro p e s mm args below meth c H locs la C hz hW hS hl
  exact lv_goto C.1 C.2.1 hd ht (k p e s mm args below meth c H locs la C hz hW hS hl)
theorem ex_icmp_eq {x y : Int} {off : Int} {tgt : Nat} (ht : (pc : Int) + off = (tgt : Int)) (hx : er_in x) (hy : er_in y) (hd : decode i.2.1 pc = .ok (.if_icmp .eq off, 3)) (kt : x = y → er_WX K i uc us sh m tgt ls st lx sx Z) (kf : x ≠ y → er_WX K i uc us sh m (pc + 3) ls st lx sx Z) : er_WX K i uc us sh m pc ls (.inl y :: .inl x :: st) lx sx Z := by
  intro p e s mm args below meth c H locs la C hz hW hS hl
  exact lv_icmp_eq C.1 C.2.1 hd ht (fun h => kt ((er_ofInt_inj hx hy).mp h) p e s mm args below meth c H locs la C hz hW hS hl) (fun h => kf (fun z => h ((er_ofInt_inj hx hy).mpr z)) p e s mm args below meth c H locs la C hz hW hS hl)
theorem ex_if_eq {x : Int} {off : Int} {tgt : Nat} (ht : (pc : Int) + off = (tgt : Int)) (hx : er_in x) (hd : decode i.2.1 pc = .ok (.ifCond .eq off, 3)) (kt : x = 0 → er_WX K i uc us sh m tgt ls st lx sx Z) (kf : x ≠ 0 → er_WX K i uc us sh m (pc + 3) ls st lx sx Z) : er_WX K i uc us sh m pc ls (.inl x :: st) lx sx Z := by
  have hy : er_in 0 := ⟨by omega, by omega⟩
  intro p e s mm args below meth c H locs la C hz hW hS hl
  exact lv_if_eq C.1 C.2.1 hd ht (fun h => kt (by rw [← er_zero] at h; exact (er_ofInt_inj hx hy).mp h) p e s mm args below meth c H locs la C hz hW hS hl) (fun h => kf (by rw [← er_zero] at h; exact fun z => h ((er_ofInt_inj hx hy).mpr z)) p e s mm args below meth c H locs la C hz hW hS hl)
theorem ex_icmp_ne {x y : Int} {off : Int} {tgt : Nat} (ht : (pc : Int) + off = (tgt : Int)) (hx : er_in x) (hy : er_in y) (hd : decode i.2.1 pc = .ok (.if_icmp .ne off, 3)) (kt : x ≠ y → er_WX K i uc us sh m tgt ls st lx sx Z) (kf : x = y → er_WX K i uc us sh m (pc + 3) ls st lx sx Z) : er_WX K i uc us sh m pc ls (.inl y :: .inl x :: st) lx sx Z := by
  intro p e s mm args below meth c H locs la C hz hW hS hl
  exact lv_icmp_ne C.1 C.2.1 hd ht (fun h => kt (fun z => h ((er_ofInt_inj hx hy).mpr z)) p e s mm args below meth c H locs la C hz hW hS hl) (fun h => kf ((er_ofInt_inj hx hy).mp h) p e s mm args below meth c H locs la C hz hW hS hl)
theorem ex_if_ne {x : Int} {off : Int} {tgt : Nat} (ht : (pc : Int) + off = (tgt : Int)) (hx : er_in x) (hd : decode i.2.1 pc = .ok (.ifCond .ne off, 3)) (kt : x ≠ 0 → er_WX K i uc us sh m tgt ls st lx sx Z) (kf : x = 0 → er_WX K i uc us sh m (pc + 3) ls st lx sx Z) : er_WX K i uc us sh m pc ls (.inl x :: st) lx sx Z := by
  have hy : er_in 0 := ⟨by omega, by omega⟩
  intro p e s mm args below meth c H locs la C hz hW hS hl
  exact lv_if_ne C.1 C.2.1 hd ht (fun h => kt (by rw [← er_zero] at h; exact fun z => h ((er_ofInt_inj hx hy).mpr z)) p e s mm args below meth c H locs la C hz hW hS hl) (fun h => kf (by rw [← er_zero] at h; exact (er_ofInt_inj hx hy).mp h) p e s mm args below meth c H locs la C hz hW hS hl)
theorem ex_icmp_lt {x y : Int} {off : Int} {tgt : Nat} (ht : (pc : Int) + off = (tgt : Int)) (hx : er_in x) (hy : er_in y) (hd : decode i.2.1 pc = .ok (.if_icmp .lt off, 3)) (kt : x < y → er_WX K i uc us sh m tgt ls st lx sx Z) (kf : y ≤ x → er_WX K i uc us sh m (pc + 3) ls st lx sx Z) : er_WX K i uc us sh m pc ls (.inl y :: .inl x :: st) lx sx Z := by
  intro p e s mm args below meth c H locs la C hz hW hS hl
  exact lv_icmp_lt C.1 C.2.1 hd ht (fun h => kt ((er_ofInt_lt hx hy).mp h) p e s mm args below meth c H locs la C hz hW hS hl) (fun h => kf (Int.not_lt.mp (fun z => h ((er_ofInt_lt hx hy).mpr z))) p e s mm args below meth c H locs la C hz hW hS hl)
theorem ex_if_lt {x : Int} {off : Int} {tgt : Nat} (ht : (pc : Int) + off = (tgt : Int)) (hx : er_in x) (hd : decode i.2.1 pc = .ok (.ifCond .lt off, 3)) (kt : x < 0 → er_WX K i uc us sh m tgt ls st lx sx Z) (kf : 0 ≤ x → er_WX K i uc us sh m (pc + 3) ls st lx sx Z) : er_WX K i uc us sh m pc ls (.inl x :: st) lx sx Z := by
  have hy : er_in 0 := ⟨by omega, by omega⟩
  intro p e s mm args below meth c H locs la C hz hW hS hl
  exact lv_if_lt C.1 C.2.1 hd ht (fun h => kt (by rw [← er_zero] at h; exact (er_ofInt_lt hx hy).mp h) p e s mm args below meth c H locs la C hz hW hS hl) (fun h => kf (by rw [← er_zero] at h; exact Int.not_lt.mp (fun z => h ((er_ofInt_lt hx hy).mpr z))) p e s mm args below meth c H locs la C hz hW hS hl)
theorem ex_icmp_ge {x y : Int} {off : Int} {tgt : Nat} (ht : (pc : Int) + off = (tgt : Int)) (hx : er_in x) (hy : er_in y) (hd : decode i.2.1 pc = .ok (.if_icmp .ge off, 3)) (kt : y ≤ x → er_WX K i uc us sh m tgt ls st lx sx Z) (kf : x < y → er_WX K i uc us sh m (pc + 3) ls st lx sx Z) : er_WX K i uc us sh m pc ls (.inl y :: .inl x :: st) lx sx Z := by
  intro p e s mm args below meth c H locs la C hz hW hS hl
  exact lv_icmp_ge C.1 C.2.1 hd ht (fun h => kt ((er_ofInt_le hy hx).mp h) p e s mm args below meth c H locs la C hz hW hS hl) (fun h => kf (Int.not_le.mp (fun z => h ((er_ofInt_le hy hx).mpr z))) p e s mm args below meth c H locs la C hz hW hS hl)
theorem ex_if_ge {x : Int} {off : Int} {tgt : Nat} (ht : (pc : Int) + off = (tgt : Int)) (hx : er_in x) (hd : decode i.2.1 pc = .ok (.ifCond .ge off, 3)) (kt : 0 ≤ x → er_WX K i uc us sh m tgt ls st lx sx Z) (kf : x < 0 → er_WX K i uc us sh m (pc + 3) ls st lx sx Z) : er_WX K i uc us sh m pc ls (.inl x :: st) lx sx Z := by
  have hy : er_in 0 := ⟨by omega, by omega⟩
  intro p e s mm args below meth c H locs la C hz hW hS hl
  exact lv_if_ge C.1 C.2.1 hd ht (fun h => kt (by rw [← er_zero] at h; exact (er_ofInt_le hy hx).mp h) p e s mm args below meth c H locs la C hz hW hS hl) (fun h => kf (by rw [← er_zero] at h; exact Int.not_le.mp (fun z => h ((er_ofInt_le hy hx).mpr z))) p e s mm args below meth c H locs la C hz hW hS hl)
theorem ex_icmp_gt {x y : Int} {off : Int} {tgt : Nat} (ht : (pc : Int) + off = (tgt : Int)) (hx : er_in x) (hy : er_in y) (hd : decode i.2.1 pc = .ok (.if_icmp .gt off, 3)) (kt : y < x → er_WX K i uc us sh m tgt ls st lx sx Z) (kf : x ≤ y → er_WX K i uc us sh m (pc + 3) ls st lx sx Z) : er_WX K i uc us sh m pc ls (.inl y :: .inl x :: st) lx sx Z := by
  intro p e s mm args below meth c H locs la C hz hW hS hl
  exact lv_icmp_gt C.1 C.2.1 hd ht (fun h => kt ((er_ofInt_lt hy hx).mp h) p e s mm args below meth c H locs la C hz hW hS hl) (fun h => kf (Int.not_lt.mp (fun z => h ((er_ofInt_lt hy hx).mpr z))) p e s mm args below meth c H locs la C hz hW hS hl)
theorem ex_if_gt {x : Int} {off : Int} {tgt : Nat} (ht : (pc : Int) + off = (tgt : Int)) (hx : er_in x) (hd : decode i.2.1 pc = .ok (.ifCond .gt off, 3)) (kt : 0 < x → er_WX K i uc us sh m tgt ls st lx sx Z) (kf : x ≤ 0 → er_WX K i uc us sh m (pc + 3) ls st lx sx Z) : er_WX K i uc us sh m pc ls (.inl x :: st) lx sx Z := by
  have hy : er_in 0 := ⟨by omega, by omega⟩
  intro p e s mm args below meth c H locs la C hz hW hS hl
  exact lv_if_gt C.1 C.2.1 hd ht (fun h => kt (by rw [← er_zero] at h; exact (er_ofInt_lt hy hx).mp h) p e s mm args below meth c H locs la C hz hW hS hl) (fun h => kf (by rw [← er_zero] at h; exact Int.not_lt.mp (fun z => h ((er_ofInt_lt hy hx).mpr z))) p e s mm args below meth c H locs la C hz hW hS hl)
theorem ex_icmp_le {x y : Int} {off : Int} {tgt : Nat} (ht : (pc : Int) + off = (tgt : Int)) (hx : er_in x) (hy : er_in y) (hd : decode i.2.1 pc = .ok (.if_icmp .le off, 3)) (kt : x ≤ y → er_WX K i uc us sh m tgt ls st lx sx Z) (kf : y < x → er_WX K i uc us sh m (pc + 3) ls st lx sx Z) : er_WX K i uc us sh m pc ls (.inl y :: .inl x :: st) lx sx Z := by
  intro p e s mm args below meth c H locs la C hz hW hS hl
  exact lv_icmp_le C.1 C.2.1 hd ht (fun h => kt ((er_ofInt_le hx hy).mp h) p e s mm args below meth c H locs la C hz hW hS hl) (fun h => kf (Int.not_le.mp (fun z => h ((er_ofInt_le hx hy).mpr z))) p e s mm args below meth c H locs la C hz hW hS hl)
theorem ex_if_le {x : Int} {off : Int} {tgt : Nat} (ht : (pc : Int) + off = (tgt : Int)) (hx : er_in x) (hd : decode i.2.1 pc = .ok (.ifCond .le off, 3)) (kt : x ≤ 0 → er_WX K i uc us sh m tgt ls st lx sx Z) (kf : 0 < x → er_WX K i uc us sh m (pc + 3) ls st lx sx Z) : er_WX K i uc us sh m pc ls (.inl x :: st) lx sx Z := by
  have hy : er_in 0 := ⟨by omega, by omega⟩
  intro p e s mm args below meth c H locs la C hz hW hS hl
  exact lv_if_le C.1 C.2.1 hd ht (fun h => kt (by rw [← er_zero] at h; exact (er_ofInt_le hx hy).mp h) p e s mm args below meth c H locs la C hz hW hS hl) (fun h => kf (by rw [← er_zero] at h; exact Int.not_le.mp (fun z => h ((er_ofInt_le hx hy).mpr z))) p e s mm args below meth c H locs la C hz hW hS hl)
theorem ew_istore_n {p : Program} {l : Launch} {e : Env} {R : Room} {s : State} {mm : MethodId} {args : Array Value} {below : List Frame} {meth : Method} {c : Code} {H : Heap} {locs : List Loc} {Q : State → Prop} {cc : ByteArray} {la la' : Array Slot} {rest : List Value} {x : Int32} {k : Fin 4} (hx : p.tables.exec = Jvm.exec) (hb : c.code = cc) (hd : decode cc pc = .ok (.istore_n k, 1)) (h : storeLocals la k (.int x) = some la') (hk : W p l e R s mm args below meth c H locs uc us Q (F0 mm (pc + 1) la' rest)) : W p l e R s mm args below meth c H locs uc us Q (F0 mm pc la (.int x :: rest)) := by
  intro T hT X
  obtain ⟨t, a, b⟩ := hk T hT X
  refine ⟨t, ?_, b⟩
  jvm_step X.here [X.here.top, ↓top_set X.here.top, hx, hb, hd, h]
  exact a
theorem ew_istore {p : Program} {l : Launch} {e : Env} {R : Room} {s : State} {mm : MethodId} {args : Array Value} {below : List Frame} {meth : Method} {c : Code} {H : Heap} {locs : List Loc} {Q : State → Prop} {cc : ByteArray} {la la' : Array Slot} {rest : List Value} {x : Int32} {n : Nat} (hx : p.tables.exec = Jvm.exec) (hb : c.code = cc) (hd : decode cc pc = .ok (.istore n, 2)) (h : storeLocals la n (.int x) = some la') (hk : W p l e R s mm args below meth c H locs uc us Q (F0 mm (pc + 2) la' rest)) : W p l e R s mm args below meth c H locs uc us Q (F0 mm pc la (.int x :: rest)) := by
  intro T hT X
  obtain ⟨t, a, b⟩ := hk T hT X
  refine ⟨t, ?_, b⟩
  jvm_step X.here [X.here.top, ↓top_set X.here.top, hx, hb, hd, h]
  exact a
theorem ew_iinc {p : Program} {l : Launch} {e : Env} {R : Room} {s : State} {mm : MethodId} {args : Array Value} {below : List Frame} {meth : Method} {c : Code} {H : Heap} {locs : List Loc} {Q : State → Prop} {cc : ByteArray} {la la' : Array Slot} {rest : List Value} {x : Int32} {n : Nat} {d : Int} (hx : p.tables.exec = Jvm.exec) (hb : c.code = cc) (hd : decode cc pc = .ok (.iinc n d, 3)) (hg : la[n]? = some (.val (.int x))) (h : storeLocals la n (.int (x + Int32.ofInt d)) = some la') (hk : W p l e R s mm args below meth c H locs uc us Q (F0 mm (pc + 3) la' rest)) : W p l e R s mm args below meth c H locs uc us Q (F0 mm pc la rest) := by
  intro T hT X
  obtain ⟨t, a, b⟩ := hk T hT X
  refine ⟨t, ?_, b⟩
  jvm_step X.here [X.here.top, ↓top_set X.here.top, hx, hb, hd, hg, h]
  exact a
theorem ex_istore_n {k : Fin 4} {n : Nat} {x : Int} (ls2 : List (Option er_V)) (hkn : (k : Nat) = n) (hn : n < i.2.2.1) (hx : lx.all (fun q => q.1 != n && q.1 + 1 != n) = true) (hs : ls.set n (some (.inl x)) = ls2) (hd : decode i.2.1 pc = .ok (.istore_n k, 1)) (kk : er_WX K i uc us sh m (pc + 1) ls2 st lx sx Z) : er_WX K i uc us sh m pc ls (.inl x :: st) lx sx Z := by
  subst hkn
  subst hs
  intro p e s mm args below meth c H locs la C hz hW hS hl
  obtain ⟨la', h1, h2⟩ := ex_has_set hl hn hx (.inl x)
  exact ew_istore_n C.1 C.2.1 hd h1 (kk p e s mm args below meth c H locs la' C hz hW hS h2)
theorem ex_istore {n : Nat} {x : Int} (ls2 : List (Option er_V)) (hn : n < i.2.2.1) (hx : lx.all (fun q => q.1 != n && q.1 + 1 != n) = true) (hs : ls.set n (some (.inl x)) = ls2) (hd : decode i.2.1 pc = .ok (.istore n, 2)) (kk : er_WX K i uc us sh m (pc + 2) ls2 st lx sx Z) : er_WX K i uc us sh m pc ls (.inl x :: st) lx sx Z := by
  subst hs
  intro p e s mm args below meth c H locs la C hz hW hS hl
  obtain ⟨la', h1, h2⟩ := ex_has_set hl hn hx (.inl x)
  exact ew_istore C.1 C.2.1 hd h1 (kk p e s mm args below meth c H locs la' C hz hW hS h2)
theorem ex_iinc {n : Nat} {d x : Int} (ls2 : List (Option er_V)) (hl : ls[n]? = some (some (.inl x))) (hn : n < i.2.2.1) (hx : lx.all (fun q => q.1 != n && q.1 + 1 != n) = true) (hs : ls.set n (some (.inl (x + d))) = ls2) (hd : decode i.2.1 pc = .ok (.iinc n d, 3)) (kk : er_WX K i uc us sh m (pc + 3) ls2 st lx sx Z) : er_WX K i uc us sh m pc ls st lx sx Z := by
  have hl0 := hl
  subst hs
  intro p e s mm args below meth c H locs la C hz hW hS hl
  obtain ⟨la', h1, h2⟩ := ex_has_set hl hn hx (.inl (x + d))
  have hg : la[n]? = some (.val (.int (Int32.ofInt x))) := ex_has_get hl hl0
  have h1 : storeLocals la n (.int (Int32.ofInt x + Int32.ofInt d)) = some la' := by rw [← Int32.ofInt_add]; exact h1
  exact ew_iinc C.1 C.2.1 hd hg h1 (kk p e s mm args below meth c H locs la' C hz hW hS h2)
theorem ex_ishrN {x z : Int} (hd : decode i.2.1 pc = .ok (.ishr, 1)) (kk : ∀ y : Int, er_in y → er_WX K i uc us sh m (pc + 1) ls (.inl y :: st) lx sx Z) : er_WX K i uc us sh m pc ls (.inl z :: .inl x :: st) lx sx Z := by
  intro p e s mm args below meth c H locs la C hz hW hS hl
  have h := kk (Int32.ofInt x >>> (Int32.ofInt z &&& 31)).toInt (er_int _) p e s mm args below meth c H locs la C hz hW hS hl
  have e2 : er_cv K (.inl (Int32.ofInt x >>> (Int32.ofInt z &&& 31)).toInt) = .int (Int32.ofInt x >>> (Int32.ofInt z &&& 31)) := congrArg Value.int (Int32.ofInt_toInt _)
  rw [List.map_cons, e2] at h
  exact lv_ishr C.1 C.2.1 hd h
theorem ex_iandN {x mk : Int} (kb : Nat) (h1 : (Int32.ofInt mk).toBitVec.toNat = 2 ^ kb - 1) (h2 : mk + 1 = ((2 ^ kb : Nat) : Int)) (hd : decode i.2.1 pc = .ok (.iand, 1)) (kk : ∀ y : Int, 0 ≤ y → y < mk + 1 → er_WX K i uc us sh m (pc + 1) ls (.inl y :: st) lx sx Z) : er_WX K i uc us sh m pc ls (.inl mk :: .inl x :: st) lx sx Z := by
  intro p e s mm args below meth c H locs la C hz hW hS hl
  obtain ⟨j, hj, e1⟩ := pk_andE (Int32.ofInt x) (m := Int32.ofInt mk) kb h1
  have h := kk (j : Int) (by omega) (by rw [h2]; exact Int.ofNat_lt.mpr hj) p e s mm args below meth c H locs la C hz hW hS hl
  have e2 : er_cv K (.inl (j : Int)) = .int (Int32.ofInt x &&& Int32.ofInt mk) := congrArg Value.int (by rw [e1]; exact Int32.ofInt_eq_ofNat)
  rw [List.map_cons, e2] at h
  exact lv_iand C.1 C.2.1 hd h
/-- an int as a long -/
def er_l (x : Int) : Int64 := (Int32.ofInt x).toInt64
theorem ex_i2l {x : Int} (hd : decode i.2.1 pc = .ok (.i2l, 1)) (kk : er_WX K i uc us sh m (pc + 1) ls [] lx (.long (er_l x) :: sx) Z) : er_WX K i uc us sh m pc ls [.inl x] lx sx Z := by
  intro p e s mm args below meth c H locs la C hz hW hS hl
  exact lv_i2l C.1 C.2.1 hd rfl (kk p e s mm args below meth c H locs la C hz hW hS hl)
theorem ex_ldc2 {v : Int64} {idx : Nat} (hc : Cond.constantLong i.1.cls idx v ∈ er_tb) (hd : decode i.2.1 pc = .ok (.ldc2_w idx, 3)) (kk : er_WX K i uc us sh m (pc + 3) ls [] lx (.long v :: sx) Z) : er_WX K i uc us sh m pc ls [] lx sx Z := by
  intro p e s mm args below meth c H locs la C hz hW hS hl
  exact lv_ldc2 C.1 C.2.1 C.2.2.2.2.2.2.1 (C.2.2.2.2.2.2.2.1 _ hc) hd (kk p e s mm args below meth c H locs la C hz hW hS hl)
theorem ex_lmul {x y : Int64} (hd : decode i.2.1 pc = .ok (.lmul, 1)) (kk : er_WX K i uc us sh m (pc + 1) ls [] lx (.long (x * y) :: sx) Z) : er_WX K i uc us sh m pc ls [] lx (.long y :: .long x :: sx) Z := by
  intro p e s mm args below meth c H locs la C hz hW hS hl
  exact lv_lmul C.1 C.2.1 hd (kk p e s mm args below meth c H locs la C hz hW hS hl)
theorem ex_ladd {x y : Int64} (hd : decode i.2.1 pc = .ok (.ladd, 1)) (kk : er_WX K i uc us sh m (pc + 1) ls [] lx (.long (x + y) :: sx) Z) : er_WX K i uc us sh m pc ls [] lx (.long y :: .long x :: sx) Z := by
  intro p e s mm args below meth c H locs la C hz hW hS hl
  exact lv_ladd C.1 C.2.1 hd (kk p e s mm args below meth c H locs la C hz hW hS hl)
theorem ex_lcmp {x : Int64} (hd : decode i.2.1 pc = .ok (.lcmp, 1)) (kk : er_WX K i uc us sh m (pc + 1) ls [.inl 0] lx sx Z) : er_WX K i uc us sh m pc ls [] lx (.long x :: .long x :: sx) Z := by
  intro p e s mm args below meth c H locs la C hz hW hS hl
  have h := kk p e s mm args below meth c H locs la C hz hW hS hl
  have e1 : lg_cmp x x = 0 := by simp [lg_cmp]
  refine W.lcmp C.1 C.2.1 hd ?_
  rw [e1]
  exact h
theorem ex_lload_n {k : Fin 4} {n : Nat} {x : Int64} (hkn : (k : Nat) = n) (hx : (n, Value.long x) ∈ lx) (hd : decode i.2.1 pc = .ok (.lload_n k, 1)) (kk : er_WX K i uc us sh m (pc + 1) ls [] lx (.long x :: sx) Z) : er_WX K i uc us sh m pc ls [] lx sx Z := by
  intro p e s mm args below meth c H locs la C hz hW hS hl
  exact lv_lload_n C.1 C.2.1 hd hkn (hl.2.2 _ (List.mem_append_right _ hx)) (kk p e s mm args below meth c H locs la C hz hW hS hl)
theorem ex_lload {n : Nat} {x : Int64} (hx : (n, Value.long x) ∈ lx) (hd : decode i.2.1 pc = .ok (.lload n, 2)) (kk : er_WX K i uc us sh m (pc + 2) ls [] lx (.long x :: sx) Z) : er_WX K i uc us sh m pc ls [] lx sx Z := by
  intro p e s mm args below meth c H locs la C hz hW hS hl
  exact lv_lload C.1 C.2.1 hd (hl.2.2 _ (List.mem_append_right _ hx)) (kk p e s mm args below meth c H locs la C hz hW hS hl)
/-- a long is stored: it is the only one that is known then -/
theorem ex_has_lset {la : Array Slot} {n k : Nat} {x : Int64} (h0 : ls.getD k none = none) (h1 : ls.getD (k + 1) none = none) (hl : lv_has la n ((k, Value.long x) :: (er_lv K 0 ls ++ lx).filter (fun q => !(q.1 == k) && (!(q.1 == k + 1) && !(q.1 + 1 == k && q.2.category == 2))))) : lv_has la n (er_lv K 0 ls ++ [(k, Value.long x)]) := by
  refine ⟨hl.1, hl.2.1, fun q hq => hl.2.2 q ?_⟩
  rcases List.mem_append.mp hq with hq | hq
  · apply List.mem_cons_of_mem
    apply List.mem_filter.mpr
    refine ⟨List.mem_append_left _ hq, ?_⟩
    obtain ⟨j, v, h3, rfl⟩ := er_lv_mem _ 0 hq
    have a0 : j ≠ k := fun z => by rw [List.getD_eq_getElem?_getD, ← z, h3] at h0; simp at h0
    have a1 : j ≠ k + 1 := fun z => by rw [List.getD_eq_getElem?_getD, ← z, h3] at h1; simp at h1
    simp [er_cat, a0, a1]
  · rw [List.mem_singleton.mp hq]
    exact List.mem_cons_self
theorem ex_lstore_n {k : Fin 4} {n : Nat} {x : Int64} (hkn : (k : Nat) = n) (hn : n + 1 < i.2.2.1) (h0 : ls.getD n none = none) (h1 : ls.getD (n + 1) none = none) (hd : decode i.2.1 pc = .ok (.lstore_n k, 1)) (kk : er_WX K i uc us sh m (pc + 1) ls [] [(n, .long x)] sx Z) : er_WX K i uc us sh m pc ls [] lx (.long x :: sx) Z := by
  intro p e s mm args below meth c H locs la C hz hW hS hl
  exact lv_lstore_n C.1 C.2.1 hd hkn hl hn rfl (fun la' hl' => kk p e s mm args below meth c H locs la' C hz hW hS (ex_has_lset h0 h1 hl'))
theorem ex_lstore {n : Nat} {x : Int64} (hn : n + 1 < i.2.2.1) (h0 : ls.getD n none = none) (h1 : ls.getD (n + 1) none = none) (hd : decode i.2.1 pc = .ok (.lstore n, 2)) (kk : er_WX K i uc us sh m (pc + 2) ls [] [(n, .long x)] sx Z) : er_WX K i uc us sh m pc ls [] lx (.long x :: sx) Z := by
  intro p e s mm args below meth c H locs la C hz hW hS hl
  exact lv_lstore C.1 C.2.1 hd hl hn rfl (fun la' hl' => kk p e s mm args below meth c H locs la' C hz hW hS (ex_has_lset h0 h1 hl'))
/-- a contract with a long for its answer -/
def er_QL (K : er_K) (i : er_I) (Q : Int64 → er_M → Prop) : Array Value → State → Outcome → State → Prop := fun _ st oc t =>
  (∃ (v : Int64) (m : er_M), oc = .returned (some (.long v)) ∧ Q v m ∧ er_W K er_SH m t t.heap ∧ K.2.1 + 1 + er_SH.length = st.heap.size + i.2.2.2.2.cells) ∧ va_F (er_A K) st t
def er_SL (K : er_K) (i : er_I) (as : List er_V) (m : er_M) (Q : Int64 → er_M → Prop) : Prop :=
  Met K.1 i.1 (er_wd i) i.2.2.2.2 (va_Pc (as.map (er_cv K)) (fun U => er_W K er_SH m U U.heap ∧ er_X K U ∧ U.heap.size = K.2.1 + 1 + er_SH.length)) (er_QL K i Q) i.2.2.2.2.cells i.2.2.2.2.slots (er_A K)
theorem ex_lret {x : Int64} {Q : Int64 → er_M → Prop} (hret : i.2.2.2.1 = some .long) (hu : uc = i.2.2.2.2.cells) (hu2 : us ≤ i.2.2.2.2.slots) (hd : decode i.2.1 pc = .ok (.lreturn, 1)) (hq : Q x m) : er_WX K i uc us er_SH m pc ls [] lx [.long x] (fun below args s => MQ below (er_QL K i Q) args s i.2.2.2.2.cells i.2.2.2.2.slots (er_A K)) := by
  intro p e s mm args below meth c1 H locs la C hz hW hS hl
  refine W.widen (k := i.2.2.2.2.cells) (n := i.2.2.2.2.slots) (by omega) hu2 ?_
  exact W.lret (v := x) C.1 C.2.1 (C.2.2.2.1.trans hret) (fun t ht hw => ⟨⟨x, m, rfl, hq, ⟨by rw [ht]; exact hW.1, va_K.moved hw.alike hW.2⟩, by omega⟩, hS.F ht⟩) hS.2.2 hd C.2.2.2.2.1
theorem ex_startL {as : List er_V} {Q : Int64 → er_M → Prop} (hpl : plainName i.1.cls = true) (hn : as.length ≤ i.2.2.1) (k : er_WP K i 0 0 er_SH m 0 (as.map some ++ List.replicate (i.2.2.1 - as.length) none) [] (fun below args s => MQ below (er_QL K i Q) args s i.2.2.2.2.cells i.2.2.2.2.slots (er_A K))) : er_SL K i as m Q := by
  refine Met.ofW (cc := i.2.1) (maxL := i.2.2.1) (ret := i.2.2.2.1) (ws' := er_tb) hpl rfl ?_
  intro p e s m args below meth c s₁ B hml hv
  obtain ⟨rfl, hW, hX, hsz⟩ := hv
  have hts := atoms_spec (ws := er_wd i) B.pre
  have hl := lv_entry (as.map (er_cv K)) (n := i.2.2.1) (by rw [er_sl_len]; exact hn)
  rw [lg_entry_eq]
  refine k p e s m _ below meth c s.heap [] _ ⟨B.exec, B.bytes, hml, B.returns, B.notSynchronized, (name_of_methodNamed B.named B.method).1, findClass_of_methodNamed B.named, fun w hw => hts w (List.mem_cons_of_mem _ hw), by omega, hX⟩ (by omega) hW va_S.rf ⟨hl.1, hl.2.1, fun q hq => hl.2.2 q (er_args_mem as 0 _ hq)⟩
theorem ex_room (h8 : st.length + (sx.map fun v => v.category).sum ≤ 8) {mm : MethodId} {la : Array Slot} {stk : List Value} : 2 * (F0 mm pc la stk).monitorRoom + ((st.map (er_cv K) ++ sx).map fun v => v.category).sum ≤ 8 := lv_room (by rw [List.map_append, List.sum_append, er_catsum]; exact h8)
variable {j : er_I}
theorem ex_goesL {p : Program} {e : Env} {R : Room} {s : State} {mm : MethodId} {args : Array Value} {below : List Frame} {meth : Method} {c : Code} {H : Heap} {locs : List Loc} {la : Array Slot} {st0 rest : List Value} {mc ms : Nat} {Q : Int64 → er_M → Prop} {a : Array Value} {G : State → Prop}
    (hr : va_Run p K.1 e R s mm args below meth c H locs uc us mc ms (F0 mm pc la st0) rest (er_QL K j Q a) (er_A K)) (hS : va_S (er_A K) s.heap H locs)
    (kk : ∀ (v : Int64) (m' : er_M) (H1 : Heap) (locs1 : List Loc), Q v m' → er_W K er_SH m' s H1 → K.2.1 + 1 + er_SH.length = H.size + j.2.2.2.2.cells → va_S (er_A K) s.heap H1 locs1 → W p K.1 e R s mm args below meth c H1 locs1 (uc + mc) (us + ms) G (F0 mm (pc + 3) la (.long v :: rest))) : W p K.1 e R s mm args below meth c H locs uc us G (F0 mm pc la st0) := by
  intro T hT X
  obtain ⟨v, st₀, t, T', L, h0, X', hL, e1, e2, ⟨⟨v', m', hv, hp, hw, hz⟩, hzz, hk⟩, stp⟩ := hr T hT X
  cases hv
  rw [h0] at hzz hk hz
  have hw2 : er_W K er_SH m' s T'.heap := ⟨by rw [e1]; exact hw.1, va_K.moved (by rw [← e2]; exact X'.warmed.alike.symm) hw.2⟩
  obtain ⟨t2, a1, b1⟩ := kk v' m' T'.heap (locs ++ L) hp hw2 hz
    ⟨Nat.le_trans hS.1 (by rw [e1]; exact hzz), fun q h1 h2 => by rw [e1, hk q (Nat.lt_of_lt_of_le h1 hS.1) h2]; exact hS.2.1 q h1 h2, fun q hq => (List.mem_append.mp hq).elim (hS.2.2 q) (hL q)⟩ T' rfl X'
  exact ⟨t2, stp t2 a1, b1⟩
theorem ex_callV {idx n b ci N : Nat} {As : List er_V} {rs : List (Option Nat)} {stk : List er_V} {Q : er_Post} (hM : Cond.methodLink i.1.cls idx j.1 ∈ er_tb ∧ Cond.instanceMethod j.1 ∈ er_tb ∧ Cond.selects j.1.cls j.1 j.1 ∈ er_tb) (hw : er_MW j) (hm : er_MD j n) (hst : stk = As.reverse ++ .inr b :: st) (hn : As.length = n) (h8 : st.length + (sx.map fun v => v.category).sum ≤ 8) (hb : er_at sh b = some (ci + 5, N, rs)) (hcl : (er_cl[ci]?).map (fun q => q.1) = some j.1.cls) (hR : er_fits i j) (hf : uc + j.2.2.2.2.cells ≤ i.2.2.2.2.cells ∧ us + j.2.2.2.2.slots ≤ i.2.2.2.2.slots) (hd : decode i.2.1 pc = .ok (.invokevirtual idx, 3)) (hS : er_Spec K j (.inr b :: As) sh m Q) (kk : ∀ v sh' m', Q v sh' m' → er_WX K i (uc + j.2.2.2.2.cells) (us + j.2.2.2.2.slots) sh' m' (pc + 3) ls (v.toList ++ st) lx sx Z) : er_WX K i uc us sh m pc ls stk lx sx Z := by
  have hS0 := hS
  subst hst
  intro p e s mm args below meth c1 H locs la C hz hW hS hl T hT X
  have hsz := er_size C.2.2.2.2.2.2.2.2.1 hz hW hS hT X
  have e2 := er_ws_at (K := K) (m := m) hb
  rw [er_cell_obj] at e2
  obtain ⟨q, hq⟩ : ∃ q, er_cl[ci]? = some q := by
    cases h : er_cl[ci]? with
    | none => rw [h] at hcl; cases hcl
    | some q => exact ⟨q, rfl⟩
  rw [hq] at hcl
  have hcl : q.1 = j.1.cls := Option.some.inj hcl
  have cw : CallW i.2.2.2.2 s args i.1.cls j.1.cls idx j.1 j.2.1 j.2.2.1 j.2.2.2.1 (er_wd j) j.2.2.2.2 j.2.2.2.2.cells j.2.2.2.2.slots n :=
    cwV n C.2.2.2.2.2.2.2.1 (er_gi (fun w h => by
      rcases List.mem_append.mp h with h | h
      · simp only [List.mem_cons, List.not_mem_nil, or_false] at h
        rcases h with rfl | rfl | rfl | rfl
        · exact hM.1
        · exact hM.2.1
        · exact hM.2.2
        · exact hw.2
      · exact er_wd_in hw w h)) rfl rfl rfl ⟨rfl, hm⟩ hR
  have hp := er_pre (as := .inr b :: As) C hsz hW hS
  have hrecv := va_recv (s := s) (H := H) hW.2 hW.1 hq e2
  rw [hcl, ← er_ad_at hb] at hrecv
  refine er_goes (j := j) (va_runV (As := As.map (er_cv K)) (rest := st.map (er_cv K) ++ sx) ⟨C.1, C.2.1, C.2.2.1, C.2.2.2.2.2.2.1, C.2.2.2.2.2.2.2.1⟩ hS0 cw ⟨hp.1, hrecv, hp.2⟩ rfl (by rw [List.length_map]; exact hn) hl.1 (by simp [er_cv]) (ex_room h8) hd hf) hS (fun v sh' m' H1 locs1 hQ hW1 hz1 hS1 => ?_) T hT X
  have := kk v sh' m' hQ p e s mm args below meth c1 H1 locs1 la C (by omega) hW1 hS1 hl
  rw [List.map_append, List.append_assoc] at this
  cases v <;> exact this
theorem ex_callS {idx n : Nat} {As : List er_V} {stk : List er_V} {Q : er_Post} (hM : Cond.methodLink i.1.cls idx j.1 ∈ er_tb ∧ Cond.static j.1 ∈ er_tb) (hown : j.1.cls = i.1.cls) (hw : er_MW j) (hm : er_MD j n) (hst : stk = As.reverse ++ st) (hn : As.length = n) (h8 : st.length + (sx.map fun v => v.category).sum ≤ 8) (hR : er_fits i j) (hf : uc + j.2.2.2.2.cells ≤ i.2.2.2.2.cells ∧ us + j.2.2.2.2.slots ≤ i.2.2.2.2.slots) (hd : decode i.2.1 pc = .ok (.invokestatic idx, 3)) (hS : er_Spec K j As sh m Q) (kk : ∀ v sh' m', Q v sh' m' → er_WX K i (uc + j.2.2.2.2.cells) (us + j.2.2.2.2.slots) sh' m' (pc + 3) ls (v.toList ++ st) lx sx Z) : er_WX K i uc us sh m pc ls stk lx sx Z := by
  have hS0 := hS
  subst hst
  intro p e s mm args below meth c1 H locs la C hz hW hS hl T hT X
  have hsz := er_size C.2.2.2.2.2.2.2.2.1 hz hW hS hT X
  have cw := cwS (R := i.2.2.2.2) (own := i.1.cls) (index := idx) (y := j.1) (bytes := j.2.1) (maxL := j.2.2.1) (ret := j.2.2.2.1) (ws := er_wd j) (rm := j.2.2.2.2) n C.2.2.2.2.2.2.2.1 (er_gi (fun w h => by
      rcases List.mem_append.mp h with h | h
      · simp only [List.mem_cons, List.not_mem_nil, or_false] at h
        rcases h with rfl | rfl | rfl
        · exact hM.1
        · exact hM.2
        · rw [← hown]; exact hw.2
      · exact er_wd_in hw w h)) rfl rfl rfl ⟨hown, hm⟩ hR
  refine er_goes (j := j) (va_runS (As := As.map (er_cv K)) (rest := st.map (er_cv K) ++ sx) ⟨C.1, C.2.1, C.2.2.1, C.2.2.2.2.2.2.1, C.2.2.2.2.2.2.2.1⟩ hS0 cw (er_pre C hsz hW hS) rfl (by rw [List.length_map]; exact hn) hl.1 (by simp) (ex_room h8) hd hf) hS (fun v sh' m' H1 locs1 hQ hW1 hz1 hS1 => ?_) T hT X
  have := kk v sh' m' hQ p e s mm args below meth c1 H1 locs1 la C (by omega) hW1 hS1 hl
  rw [List.map_append, List.append_assoc] at this
  cases v <;> exact this
theorem ex_callL {idx n : Nat} {As : List er_V} {stk : List er_V} {Q : Int64 → er_M → Prop} (hM : Cond.methodLink i.1.cls idx j.1 ∈ er_tb ∧ Cond.static j.1 ∈ er_tb) (hown : j.1.cls = i.1.cls) (hw : er_MW j) (hm : er_MD j n) (hst : stk = As.reverse) (hn : As.length = n) (h8 : ([] : List er_V).length + (sx.map fun v => v.category).sum ≤ 8) (hR : er_fits i j) (hf : uc + j.2.2.2.2.cells ≤ i.2.2.2.2.cells ∧ us + j.2.2.2.2.slots ≤ i.2.2.2.2.slots) (hd : decode i.2.1 pc = .ok (.invokestatic idx, 3)) (hS : er_SL K j As m Q) (kk : ∀ v m', Q v m' → er_WX K i (uc + j.2.2.2.2.cells) (us + j.2.2.2.2.slots) er_SH m' (pc + 3) ls [] lx (.long v :: sx) Z) : er_WX K i uc us er_SH m pc ls stk lx sx Z := by
  have hS0 := hS
  subst hst
  intro p e s mm args below meth c1 H locs la C hz hW hS hl T hT X
  have hsz := er_size C.2.2.2.2.2.2.2.2.1 hz hW hS hT X
  have cw := cwS (R := i.2.2.2.2) (own := i.1.cls) (index := idx) (y := j.1) (bytes := j.2.1) (maxL := j.2.2.1) (ret := j.2.2.2.1) (ws := er_wd j) (rm := j.2.2.2.2) n C.2.2.2.2.2.2.2.1 (er_gi (fun w h => by
      rcases List.mem_append.mp h with h | h
      · simp only [List.mem_cons, List.not_mem_nil, or_false] at h
        rcases h with rfl | rfl | rfl
        · exact hM.1
        · exact hM.2
        · rw [← hown]; exact hw.2
      · exact er_wd_in hw w h)) rfl rfl rfl ⟨hown, hm⟩ hR
  refine ex_goesL (j := j) (va_runS (As := As.map (er_cv K)) (rest := ([] : List er_V).map (er_cv K) ++ sx) ⟨C.1, C.2.1, C.2.2.1, C.2.2.2.2.2.2.1, C.2.2.2.2.2.2.2.1⟩ hS0 cw (er_pre C hsz hW hS) rfl (by rw [List.length_map]; exact hn) hl.1 (by simp) (ex_room h8) hd hf) hS (fun v m' H1 locs1 hQ hW1 hz1 hS1 => kk v m' hQ p e s mm args below meth c1 H1 locs1 la C (by omega) hW1 hS1 hl) T hT X
end ER70
