/-! the rows: an instruction each -/
section ER
variable {K : er_K} {i : er_I} {uc us : Nat} {sh : er_Sh} {m : er_M} {pc : Nat} {ls : List (Option er_V)} {st : List er_V} {Z : List Frame → Array Value → State → State → Prop}
theorem er_forget (ls2 : List (Option er_V)) (h : er_wk ls2 ls) (k : er_WP K i uc us sh m pc ls2 st Z) : er_WP K i uc us sh m pc ls st Z := by
  intro p e s mm args below meth c H locs la C hz hW hS hl
  exact k p e s mm args below meth c H locs la C hz hW hS (er_has_sub hl (er_wk_spec _ _ h))
theorem er_iconst {n : Int} (hd : decode i.2.1 pc = .ok (.iconst n, 1)) (k : er_WP K i uc us sh m (pc + 1) ls (.inl n :: st) Z) : er_WP K i uc us sh m pc ls (st) Z := by
  intro p e s mm args below meth c H locs la C hz hW hS hl
  exact lv_iconst C.1 C.2.1 hd rfl (k p e s mm args below meth c H locs la C hz hW hS hl)
theorem er_bipush {n : Int} (hv : (Int8.ofInt n).toInt32 = Int32.ofInt n) (hd : decode i.2.1 pc = .ok (.bipush n, 2)) (k : er_WP K i uc us sh m (pc + 2) ls (.inl n :: st) Z) : er_WP K i uc us sh m pc ls (st) Z := by
  intro p e s mm args below meth c H locs la C hz hW hS hl
  exact lv_bipush C.1 C.2.1 hd hv (k p e s mm args below meth c H locs la C hz hW hS hl)
theorem er_sipush {n : Int} (hv : (Int16.ofInt n).toInt32 = Int32.ofInt n) (hd : decode i.2.1 pc = .ok (.sipush n, 3)) (k : er_WP K i uc us sh m (pc + 3) ls (.inl n :: st) Z) : er_WP K i uc us sh m pc ls (st) Z := by
  intro p e s mm args below meth c H locs la C hz hW hS hl
  exact lv_sipush C.1 C.2.1 hd hv (k p e s mm args below meth c H locs la C hz hW hS hl)
theorem er_ldc {n : Int} {idx : Nat} (hc : Cond.constant i.1.cls idx (Int32.ofInt n) ∈ er_tb) (hd : decode i.2.1 pc = .ok (.ldc idx, 2)) (k : er_WP K i uc us sh m (pc + 2) ls (.inl n :: st) Z) : er_WP K i uc us sh m pc ls st Z := by
  intro p e s mm args below meth c H locs la C hz hW hS hl
  exact lv_ldc C.1 C.2.1 C.2.2.2.2.2.2.1 (C.2.2.2.2.2.2.2.1 _ hc) hd (k p e s mm args below meth c H locs la C hz hW hS hl)
theorem er_iload_n {k : Fin 4} {x : Int} {n : Nat} (hn : (k : Nat) = n) (hl : ls[n]? = some (some (.inl x))) (hd : decode i.2.1 pc = .ok (.iload_n k, 1)) (kk : er_WP K i uc us sh m (pc + 1) ls (.inl x :: st) Z) : er_WP K i uc us sh m pc ls st Z := by
  have hl0 := hl
  intro p e s mm args below meth c H locs la C hz hW hS hl
  exact lv_iload_n C.1 C.2.1 hd hn (er_has_get hl hl0) (kk p e s mm args below meth c H locs la C hz hW hS hl)
theorem er_iload {x : Int} {n : Nat} (hl : ls[n]? = some (some (.inl x))) (hd : decode i.2.1 pc = .ok (.iload n, 2)) (kk : er_WP K i uc us sh m (pc + 2) ls (.inl x :: st) Z) : er_WP K i uc us sh m pc ls st Z := by
  have hl0 := hl
  intro p e s mm args below meth c H locs la C hz hW hS hl
  exact lv_iload C.1 C.2.1 hd (er_has_get hl hl0) (kk p e s mm args below meth c H locs la C hz hW hS hl)
theorem er_aload_n {k : Fin 4} {x : Nat} {n : Nat} (hn : (k : Nat) = n) (hl : ls[n]? = some (some (.inr x))) (hd : decode i.2.1 pc = .ok (.aload_n k, 1)) (kk : er_WP K i uc us sh m (pc + 1) ls (.inr x :: st) Z) : er_WP K i uc us sh m pc ls st Z := by
  have hl0 := hl
  intro p e s mm args below meth c H locs la C hz hW hS hl
  exact lv_aload_n C.1 C.2.1 hd hn (er_has_get hl hl0) (kk p e s mm args below meth c H locs la C hz hW hS hl)
theorem er_aload {x : Nat} {n : Nat} (hl : ls[n]? = some (some (.inr x))) (hd : decode i.2.1 pc = .ok (.aload n, 2)) (kk : er_WP K i uc us sh m (pc + 2) ls (.inr x :: st) Z) : er_WP K i uc us sh m pc ls st Z := by
  have hl0 := hl
  intro p e s mm args below meth c H locs la C hz hW hS hl
  exact lv_aload C.1 C.2.1 hd (er_has_get hl hl0) (kk p e s mm args below meth c H locs la C hz hW hS hl)
/-- the frame goes on with other locals -/
theorem er_locals {n : Nat} {v : er_V} {x : Nat} (hn : n < i.2.2.1) (hstep : ∀ (p : Program) (e : Env) (s : State) (mm : MethodId) (args : Array Value) (below : List Frame) (meth : Method) (c : Code) (H : Heap) (locs : List Loc) (la la' : Array Slot) (Q : State → Prop), er_Cx K i p mm meth c s args → storeLocals la n (er_cv K v) = some la' → W p K.1 e i.2.2.2.2 s mm args below meth c H locs uc us Q (F0 mm (pc + x) la' (st.map (er_cv K))) → W p K.1 e i.2.2.2.2 s mm args below meth c H locs uc us Q (F0 mm pc la ((v :: st).map (er_cv K)))) (kk : er_WP K i uc us sh m (pc + x) (ls.set n (some v)) st Z) : er_WP K i uc us sh m pc ls (v :: st) Z := by
  intro p e s mm args below meth c H locs la C hz hW hS hl
  obtain ⟨la', h1, h2⟩ := er_has_set hl hn v
  exact hstep p e s mm args below meth c H locs la la' _ C h1 (kk p e s mm args below meth c H locs la' C hz hW hS h2)
theorem er_istore_n {k : Fin 4} {n : Nat} (hkn : (k : Nat) = n) {x : Int} (hn : n < i.2.2.1) (hd : decode i.2.1 pc = .ok (.istore_n k, 1)) (kk : er_WP K i uc us sh m (pc + 1) (ls.set n (some (.inl x))) st Z) : er_WP K i uc us sh m pc ls (.inl x :: st) Z := by
  refine er_locals (v := .inl x) hn (fun p e s mm args below meth c H locs la la' Q C h hk => ?_) kk
  subst hkn
  have hx := C.1
  have hb := C.2.1
  intro T hT X
  obtain ⟨t, a, b⟩ := hk T hT X
  refine ⟨t, ?_, b⟩
  jvm_step X.here [X.here.top, ↓top_set X.here.top, hx, hb, hd, h, er_cv]
  exact ⟨_, h, a⟩
theorem er_istore {n : Nat} {x : Int} (hn : n < i.2.2.1) (hd : decode i.2.1 pc = .ok (.istore n, 2)) (kk : er_WP K i uc us sh m (pc + 2) (ls.set n (some (.inl x))) st Z) : er_WP K i uc us sh m pc ls (.inl x :: st) Z := by
  refine er_locals (v := .inl x) hn (fun p e s mm args below meth c H locs la la' Q C h hk => ?_) kk
  have hx := C.1
  have hb := C.2.1
  intro T hT X
  obtain ⟨t, a, b⟩ := hk T hT X
  refine ⟨t, ?_, b⟩
  jvm_step X.here [X.here.top, ↓top_set X.here.top, hx, hb, hd, h, er_cv]
  exact ⟨_, h, a⟩
theorem er_astore_n {k : Fin 4} {n : Nat} (hkn : (k : Nat) = n) {x : Nat} (hn : n < i.2.2.1) (hd : decode i.2.1 pc = .ok (.astore_n k, 1)) (kk : er_WP K i uc us sh m (pc + 1) (ls.set n (some (.inr x))) st Z) : er_WP K i uc us sh m pc ls (.inr x :: st) Z := by
  refine er_locals (v := .inr x) hn (fun p e s mm args below meth c H locs la la' Q C h hk => ?_) kk
  subst hkn
  have hx := C.1
  have hb := C.2.1
  intro T hT X
  obtain ⟨t, a, b⟩ := hk T hT X
  refine ⟨t, ?_, b⟩
  jvm_step X.here [X.here.top, ↓top_set X.here.top, hx, hb, hd, h, er_cv, Value.isRef]
  exact ⟨_, h, a⟩
theorem er_astore {n : Nat} {x : Nat} (hn : n < i.2.2.1) (hd : decode i.2.1 pc = .ok (.astore n, 2)) (kk : er_WP K i uc us sh m (pc + 2) (ls.set n (some (.inr x))) st Z) : er_WP K i uc us sh m pc ls (.inr x :: st) Z := by
  refine er_locals (v := .inr x) hn (fun p e s mm args below meth c H locs la la' Q C h hk => ?_) kk
  have hx := C.1
  have hb := C.2.1
  intro T hT X
  obtain ⟨t, a, b⟩ := hk T hT X
  refine ⟨t, ?_, b⟩
  jvm_step X.here [X.here.top, ↓top_set X.here.top, hx, hb, hd, h, er_cv, Value.isRef]
  exact ⟨_, h, a⟩
theorem er_iinc {n : Nat} {d x : Int} (hl : ls[n]? = some (some (.inl x))) (hn : n < i.2.2.1) (hd : decode i.2.1 pc = .ok (.iinc n d, 3)) (kk : er_WP K i uc us sh m (pc + 3) (ls.set n (some (.inl (x + d)))) st Z) : er_WP K i uc us sh m pc ls st Z := by
  have hl0 := hl
  intro p e s mm args below meth c H locs la C hz hW hS hl
  obtain ⟨la', h1, h2⟩ := er_has_set hl hn (.inl (x + d))
  have hg := er_has_get hl hl0
  have hx := C.1
  have hb := C.2.1
  have hk := kk p e s mm args below meth c H locs la' C hz hW hS h2
  intro T hT X
  obtain ⟨t, a, b⟩ := hk T hT X
  refine ⟨t, ?_, b⟩
  have hg : la[n]? = some (.val (.int (Int32.ofInt x))) := hg
  have h1 : storeLocals la n (.int (Int32.ofInt x + Int32.ofInt d)) = some la' := by rw [← Int32.ofInt_add]; exact h1
  jvm_step X.here [X.here.top, ↓top_set X.here.top, hx, hb, hd, hg, h1]
  exact a
theorem er_iadd {x y : Int}  (hd : decode i.2.1 pc = .ok (.iadd, 1)) (k : er_WP K i uc us sh m (pc + 1) ls (.inl (x + y) :: st) Z) : er_WP K i uc us sh m pc ls (.inl y :: .inl x :: st) Z := by
  intro p e s mm args below meth c H locs la C hz hW hS hl
  have h := k p e s mm args below meth c H locs la C hz hW hS hl
  have e : er_cv K (.inl (x + y)) = .int (Int32.ofInt x + Int32.ofInt y) := congrArg Value.int (Int32.ofInt_add x y)
  rw [List.map_cons, e] at h
  exact lv_iadd C.1 C.2.1 hd h
theorem er_isub {x y : Int}  (hd : decode i.2.1 pc = .ok (.isub, 1)) (k : er_WP K i uc us sh m (pc + 1) ls (.inl (x - y) :: st) Z) : er_WP K i uc us sh m pc ls (.inl y :: .inl x :: st) Z := by
  intro p e s mm args below meth c H locs la C hz hW hS hl
  have h := k p e s mm args below meth c H locs la C hz hW hS hl
  have e : er_cv K (.inl (x - y)) = .int (Int32.ofInt x - Int32.ofInt y) := congrArg Value.int (Int32.ofInt_sub x y)
  rw [List.map_cons, e] at h
  exact lv_isub C.1 C.2.1 hd h
theorem er_imul {x y : Int}  (hd : decode i.2.1 pc = .ok (.imul, 1)) (k : er_WP K i uc us sh m (pc + 1) ls (.inl (x * y) :: st) Z) : er_WP K i uc us sh m pc ls (.inl y :: .inl x :: st) Z := by
  intro p e s mm args below meth c H locs la C hz hW hS hl
  have h := k p e s mm args below meth c H locs la C hz hW hS hl
  have e : er_cv K (.inl (x * y)) = .int (Int32.ofInt x * Int32.ofInt y) := congrArg Value.int (Int32.ofInt_mul x y)
  rw [List.map_cons, e] at h
  exact lv_imul C.1 C.2.1 hd h
theorem er_div_eq {x y : Int} (hx : 0 ≤ x) (hx1 : x < 2147483648) (hy : 0 < y) (hy1 : y < 2147483648) : Int32.ofInt x / Int32.ofInt y = Int32.ofInt (x / y) := by
  have h1 : er_in x := ⟨by omega, hx1⟩
  have h2 : er_in y := ⟨by omega, hy1⟩
  have h3 : er_in (x / y) := ⟨by have := Int.ediv_nonneg hx (Int.le_of_lt hy); omega, by have := Int.ediv_le_self y hx; omega⟩
  rw [← Int32.toInt_inj, Int32.toInt_div_of_ne_right, er_toInt h1, er_toInt h2, er_toInt h3, Int.tdiv_eq_ediv_of_nonneg hx]
  intro h
  have : (Int32.ofInt y).toInt = (-1 : Int32).toInt := by rw [h]
  rw [er_toInt h2] at this
  have e : (-1 : Int32).toInt = -1 := by decide
  rw [e] at this
  omega
theorem er_ne0 {y : Int} (hy : 0 < y) (hy1 : y < 2147483648) : ¬ Int32.ofInt y = 0 := by
  rw [← er_zero, er_ofInt_inj ⟨by omega, hy1⟩ ⟨by omega, by omega⟩]
  omega
theorem er_idiv {x y : Int} (hx : 0 ≤ x) (hx1 : x < 2147483648) (hy : 0 < y) (hy1 : y < 2147483648) (hd : decode i.2.1 pc = .ok (.idiv, 1)) (k : er_WP K i uc us sh m (pc + 1) ls (.inl (x / y) :: st) Z) : er_WP K i uc us sh m pc ls (.inl y :: .inl x :: st) Z := by
  intro p e s mm args below meth c H locs la C hz hW hS hl
  have h := k p e s mm args below meth c H locs la C hz hW hS hl
  have e1 : er_cv K (.inl (x / y)) = .int (Int32.ofInt x / Int32.ofInt y) := congrArg Value.int (er_div_eq hx hx1 hy hy1).symm
  rw [List.map_cons, e1] at h
  exact lv_idiv C.1 C.2.1 hd (er_ne0 hy hy1) h
theorem er_irem {x y : Int} (hx : 0 ≤ x) (hx1 : x < 2147483648) (hy : 0 < y) (hy1 : y < 2147483648) (hd : decode i.2.1 pc = .ok (.irem, 1)) (k : er_WP K i uc us sh m (pc + 1) ls (.inl (x % y) :: st) Z) : er_WP K i uc us sh m pc ls (.inl y :: .inl x :: st) Z := by
  intro p e s mm args below meth c H locs la C hz hW hS hl
  have h := k p e s mm args below meth c H locs la C hz hW hS hl
  have e1 : er_cv K (.inl (x % y)) = .int (Int32.ofInt x - Int32.ofInt x / Int32.ofInt y * Int32.ofInt y) := by
    rw [er_div_eq hx hx1 hy hy1, ← Int32.ofInt_mul, ← Int32.ofInt_sub]
    have : x % y = x - x / y * y := by rw [Int.emod_def, Int.mul_comm]
    rw [← this]
    rfl
  rw [List.map_cons, e1] at h
  exact lv_irem C.1 C.2.1 hd (er_ne0 hy hy1) h
theorem er_xor_eq {x : Int} (hx : 0 ≤ x) (hx1 : x < 2147483647) : Int32.ofInt x ^^^ Int32.ofInt 1 = Int32.ofInt (x + 1 - 2 * (x % 2)) := by
  obtain ⟨n, rfl⟩ : ∃ n : Nat, x = n := ⟨x.toNat, by omega⟩
  have hn : n < 2147483647 := by omega
  have e1 : (n : Int) + 1 - 2 * (n % 2) = ((n ^^^ 1 : Nat) : Int) := by
    have h2 : (n ^^^ 1) % 2 = (n + 1) % 2 := by
      rw [show (2 : Nat) = 2 ^ 1 by rfl, Nat.xor_mod_two_pow]
      rcases (by omega : n % 2 = 0 ∨ n % 2 = 1) with h | h <;> simp [h, Nat.add_mod]
    have h3 : (n ^^^ 1) / 2 = n / 2 := by
      have := Nat.shiftRight_xor_distrib (a := n) (b := 1) (i := 1)
      simpa [Nat.shiftRight_succ] using this
    omega
  rw [e1, Int32.ofInt_eq_ofNat, show Int32.ofInt 1 = Int32.ofNat 1 from rfl, Int32.ofInt_eq_ofNat]
  apply Int32.toBitVec_inj.mp
  rw [Int32.toBitVec_xor]
  exact BitVec.ofNat_xor.symm
theorem er_ixor {x : Int} (hx : 0 ≤ x) (hx1 : x < 2147483647) (hd : decode i.2.1 pc = .ok (.ixor, 1)) (k : er_WP K i uc us sh m (pc + 1) ls (.inl (x + 1 - 2 * (x % 2)) :: st) Z) : er_WP K i uc us sh m pc ls (.inl 1 :: .inl x :: st) Z := by
  intro p e s mm args below meth c H locs la C hz hW hS hl
  have h := k p e s mm args below meth c H locs la C hz hW hS hl
  have e1 : er_cv K (.inl (x + 1 - 2 * (x % 2))) = .int (Int32.ofInt x ^^^ Int32.ofInt 1) := congrArg Value.int (er_xor_eq hx hx1).symm
  rw [List.map_cons, e1] at h
  exact lv_ixor C.1 C.2.1 hd h
theorem er_i2b_eq {x : Int} (hx : 0 ≤ x) (hx1 : x < 256) : (Int32.ofInt x).toInt8.toInt32 = Int32.ofInt ((x + 128) % 256 - 128) := by
  obtain ⟨n, rfl⟩ : ∃ n : Nat, x = n := ⟨x.toNat, by omega⟩
  have hn : n < 256 := by omega
  have h : ∀ n, n < 256 → (Int32.ofInt (n : Nat)).toInt8.toInt32 = Int32.ofInt (((n : Nat) + 128) % 256 - 128) := by decide +kernel
  exact h n hn
theorem er_i2b {x : Int} (hx : 0 ≤ x) (hx1 : x < 256) (hd : decode i.2.1 pc = .ok (.i2b, 1)) (k : er_WP K i uc us sh m (pc + 1) ls (.inl ((x + 128) % 256 - 128) :: st) Z) : er_WP K i uc us sh m pc ls (.inl x :: st) Z := by
  intro p e s mm args below meth c H locs la C hz hW hS hl
  exact lv_i2b C.1 C.2.1 hd (er_i2b_eq hx hx1) (k p e s mm args below meth c H locs la C hz hW hS hl)
theorem er_and_eq {x : Int} (hx : er_in x) : Int32.ofInt x &&& Int32.ofInt 31 = Int32.ofInt (x % 32) := by
  have h := pk_and (Int32.ofInt x) (m := Int32.ofInt 31) 5 (by decide)
  rw [h]
  have h1 : (Int32.ofInt x).toBitVec.toNat = (x % 4294967296).toNat := by
    rw [Int32.toBitVec_ofInt, BitVec.toNat_ofInt]
    rfl
  rw [h1]
  show Int32.ofNat _ = _
  rw [← Int32.ofInt_eq_ofNat]
  congr 1
  omega
theorem er_iand {x : Int} (hx : er_in x) (hd : decode i.2.1 pc = .ok (.iand, 1)) (k : er_WP K i uc us sh m (pc + 1) ls (.inl (x % 32) :: st) Z) : er_WP K i uc us sh m pc ls (.inl 31 :: .inl x :: st) Z := by
  intro p e s mm args below meth c H locs la C hz hW hS hl
  have h := k p e s mm args below meth c H locs la C hz hW hS hl
  have e1 : er_cv K (.inl (x % 32)) = .int (Int32.ofInt x &&& Int32.ofInt 31) := congrArg Value.int (er_and_eq hx).symm
  rw [List.map_cons, e1] at h
  exact lv_iand C.1 C.2.1 hd h
theorem er_pop {v : er_V} (hd : decode i.2.1 pc = .ok (.pop, 1)) (k : er_WP K i uc us sh m (pc + 1) ls (st) Z) : er_WP K i uc us sh m pc ls (v :: st) Z := by
  intro p e s mm args below meth c H locs la C hz hW hS hl
  exact lv_pop C.1 C.2.1 hd (er_cat K v) (k p e s mm args below meth c H locs la C hz hW hS hl)
theorem er_dup {v : er_V} (hd : decode i.2.1 pc = .ok (.dup, 1)) (k : er_WP K i uc us sh m (pc + 1) ls (v :: v :: st) Z) : er_WP K i uc us sh m pc ls (v :: st) Z := by
  intro p e s mm args below meth c H locs la C hz hW hS hl
  exact lv_dup C.1 C.2.1 hd (er_cat K v) (k p e s mm args below meth c H locs la C hz hW hS hl)
theorem er_dup2 {v u : er_V} (hd : decode i.2.1 pc = .ok (.dup2, 1)) (k : er_WP K i uc us sh m (pc + 1) ls (v :: u :: v :: u :: st) Z) : er_WP K i uc us sh m pc ls (v :: u :: st) Z := by
  intro p e s mm args below meth c H locs la C hz hW hS hl
  exact lv_dup2_11 C.1 C.2.1 hd (er_cat K v) (er_cat K u) (k p e s mm args below meth c H locs la C hz hW hS hl)
theorem er_goto {off : Int} {tgt : Nat} (ht : (pc : Int) + off = (tgt : Int)) (hd : decode i.2.1 pc = .ok (.goto off, 3)) (k : er_WP K i uc us sh m tgt ls st Z) : er_WP K i uc us sh m pc ls st Z := by
  intro p e s mm args below meth c H locs la C hz hW hS hl
  exact lv_goto C.1 C.2.1 hd ht (k p e s mm args below meth c H locs la C hz hW hS hl)
theorem er_icmp_eq {x y : Int} {off : Int} {tgt : Nat} (ht : (pc : Int) + off = (tgt : Int)) (hx : er_in x) (hy : er_in y) (hd : decode i.2.1 pc = .ok (.if_icmp .eq off, 3)) (kt : x = y → er_WP K i uc us sh m tgt ls st Z) (kf : x ≠ y → er_WP K i uc us sh m (pc + 3) ls st Z) : er_WP K i uc us sh m pc ls (.inl y :: .inl x :: st) Z := by
  intro p e s mm args below meth c H locs la C hz hW hS hl
  exact lv_icmp_eq C.1 C.2.1 hd ht (fun h => kt ((er_ofInt_inj hx hy).mp h) p e s mm args below meth c H locs la C hz hW hS hl) (fun h => kf (fun z => h ((er_ofInt_inj hx hy).mpr z)) p e s mm args below meth c H locs la C hz hW hS hl)
theorem er_if_eq {x : Int} {off : Int} {tgt : Nat} (ht : (pc : Int) + off = (tgt : Int)) (hx : er_in x) (hd : decode i.2.1 pc = .ok (.ifCond .eq off, 3)) (kt : x = 0 → er_WP K i uc us sh m tgt ls st Z) (kf : x ≠ 0 → er_WP K i uc us sh m (pc + 3) ls st Z) : er_WP K i uc us sh m pc ls (.inl x :: st) Z := by
  have hy : er_in 0 := ⟨by omega, by omega⟩
  intro p e s mm args below meth c H locs la C hz hW hS hl
  exact lv_if_eq C.1 C.2.1 hd ht (fun h => kt (by rw [← er_zero] at h; exact (er_ofInt_inj hx hy).mp h) p e s mm args below meth c H locs la C hz hW hS hl) (fun h => kf (by rw [← er_zero] at h; exact fun z => h ((er_ofInt_inj hx hy).mpr z)) p e s mm args below meth c H locs la C hz hW hS hl)
theorem er_icmp_ne {x y : Int} {off : Int} {tgt : Nat} (ht : (pc : Int) + off = (tgt : Int)) (hx : er_in x) (hy : er_in y) (hd : decode i.2.1 pc = .ok (.if_icmp .ne off, 3)) (kt : x ≠ y → er_WP K i uc us sh m tgt ls st Z) (kf : x = y → er_WP K i uc us sh m (pc + 3) ls st Z) : er_WP K i uc us sh m pc ls (.inl y :: .inl x :: st) Z := by
  intro p e s mm args below meth c H locs la C hz hW hS hl
  exact lv_icmp_ne C.1 C.2.1 hd ht (fun h => kt (fun z => h ((er_ofInt_inj hx hy).mpr z)) p e s mm args below meth c H locs la C hz hW hS hl) (fun h => kf ((er_ofInt_inj hx hy).mp h) p e s mm args below meth c H locs la C hz hW hS hl)
theorem er_if_ne {x : Int} {off : Int} {tgt : Nat} (ht : (pc : Int) + off = (tgt : Int)) (hx : er_in x) (hd : decode i.2.1 pc = .ok (.ifCond .ne off, 3)) (kt : x ≠ 0 → er_WP K i uc us sh m tgt ls st Z) (kf : x = 0 → er_WP K i uc us sh m (pc + 3) ls st Z) : er_WP K i uc us sh m pc ls (.inl x :: st) Z := by
  have hy : er_in 0 := ⟨by omega, by omega⟩
  intro p e s mm args below meth c H locs la C hz hW hS hl
  exact lv_if_ne C.1 C.2.1 hd ht (fun h => kt (by rw [← er_zero] at h; exact fun z => h ((er_ofInt_inj hx hy).mpr z)) p e s mm args below meth c H locs la C hz hW hS hl) (fun h => kf (by rw [← er_zero] at h; exact (er_ofInt_inj hx hy).mp h) p e s mm args below meth c H locs la C hz hW hS hl)
theorem er_icmp_lt {x y : Int} {off : Int} {tgt : Nat} (ht : (pc : Int) + off = (tgt : Int)) (hx : er_in x) (hy : er_in y) (hd : decode i.2.1 pc = .ok (.if_icmp .lt off, 3)) (kt : x < y → er_WP K i uc us sh m tgt ls st Z) (kf : y ≤ x → er_WP K i uc us sh m (pc + 3) ls st Z) : er_WP K i uc us sh m pc ls (.inl y :: .inl x :: st) Z := by
  intro p e s mm args below meth c H locs la C hz hW hS hl
  exact lv_icmp_lt C.1 C.2.1 hd ht (fun h => kt ((er_ofInt_lt hx hy).mp h) p e s mm args below meth c H locs la C hz hW hS hl) (fun h => kf (Int.not_lt.mp (fun z => h ((er_ofInt_lt hx hy).mpr z))) p e s mm args below meth c H locs la C hz hW hS hl)
theorem er_if_lt {x : Int} {off : Int} {tgt : Nat} (ht : (pc : Int) + off = (tgt : Int)) (hx : er_in x) (hd : decode i.2.1 pc = .ok (.ifCond .lt off, 3)) (kt : x < 0 → er_WP K i uc us sh m tgt ls st Z) (kf : 0 ≤ x → er_WP K i uc us sh m (pc + 3) ls st Z) : er_WP K i uc us sh m pc ls (.inl x :: st) Z := by
  have hy : er_in 0 := ⟨by omega, by omega⟩
  intro p e s mm args below meth c H locs la C hz hW hS hl
  exact lv_if_lt C.1 C.2.1 hd ht (fun h => kt (by rw [← er_zero] at h; exact (er_ofInt_lt hx hy).mp h) p e s mm args below meth c H locs la C hz hW hS hl) (fun h => kf (by rw [← er_zero] at h; exact Int.not_lt.mp (fun z => h ((er_ofInt_lt hx hy).mpr z))) p e s mm args below meth c H locs la C hz hW hS hl)
theorem er_icmp_ge {x y : Int} {off : Int} {tgt : Nat} (ht : (pc : Int) + off = (tgt : Int)) (hx : er_in x) (hy : er_in y) (hd : decode i.2.1 pc = .ok (.if_icmp .ge off, 3)) (kt : y ≤ x → er_WP K i uc us sh m tgt ls st Z) (kf : x < y → er_WP K i uc us sh m (pc + 3) ls st Z) : er_WP K i uc us sh m pc ls (.inl y :: .inl x :: st) Z := by
  intro p e s mm args below meth c H locs la C hz hW hS hl
  exact lv_icmp_ge C.1 C.2.1 hd ht (fun h => kt ((er_ofInt_le hy hx).mp h) p e s mm args below meth c H locs la C hz hW hS hl) (fun h => kf (Int.not_le.mp (fun z => h ((er_ofInt_le hy hx).mpr z))) p e s mm args below meth c H locs la C hz hW hS hl)
theorem er_if_ge {x : Int} {off : Int} {tgt : Nat} (ht : (pc : Int) + off = (tgt : Int)) (hx : er_in x) (hd : decode i.2.1 pc = .ok (.ifCond .ge off, 3)) (kt : 0 ≤ x → er_WP K i uc us sh m tgt ls st Z) (kf : x < 0 → er_WP K i uc us sh m (pc + 3) ls st Z) : er_WP K i uc us sh m pc ls (.inl x :: st) Z := by
  have hy : er_in 0 := ⟨by omega, by omega⟩
  intro p e s mm args below meth c H locs la C hz hW hS hl
  exact lv_if_ge C.1 C.2.1 hd ht (fun h => kt (by rw [← er_zero] at h; exact (er_ofInt_le hy hx).mp h) p e s mm args below meth c H locs la C hz hW hS hl) (fun h => kf (by rw [← er_zero] at h; exact Int.not_le.mp (fun z => h ((er_ofInt_le hy hx).mpr z))) p e s mm args below meth c H locs la C hz hW hS hl)
theorem er_icmp_gt {x y : Int} {off : Int} {tgt : Nat} (ht : (pc : Int) + off = (tgt : Int)) (hx : er_in x) (hy : er_in y) (hd : decode i.2.1 pc = .ok (.if_icmp .gt off, 3)) (kt : y < x → er_WP K i uc us sh m tgt ls st Z) (kf : x ≤ y → er_WP K i uc us sh m (pc + 3) ls st Z) : er_WP K i uc us sh m pc ls (.inl y :: .inl x :: st) Z := by
  intro p e s mm args below meth c H locs la C hz hW hS hl
  exact lv_icmp_gt C.1 C.2.1 hd ht (fun h => kt ((er_ofInt_lt hy hx).mp h) p e s mm args below meth c H locs la C hz hW hS hl) (fun h => kf (Int.not_lt.mp (fun z => h ((er_ofInt_lt hy hx).mpr z))) p e s mm args below meth c H locs la C hz hW hS hl)
theorem er_if_gt {x : Int} {off : Int} {tgt : Nat} (ht : (pc : Int) + off = (tgt : Int)) (hx : er_in x) (hd : decode i.2.1 pc = .ok (.ifCond .gt off, 3)) (kt : 0 < x → er_WP K i uc us sh m tgt ls st Z) (kf : x ≤ 0 → er_WP K i uc us sh m (pc + 3) ls st Z) : er_WP K i uc us sh m pc ls (.inl x :: st) Z := by
  have hy : er_in 0 := ⟨by omega, by omega⟩
  intro p e s mm args below meth c H locs la C hz hW hS hl
  exact lv_if_gt C.1 C.2.1 hd ht (fun h => kt (by rw [← er_zero] at h; exact (er_ofInt_lt hy hx).mp h) p e s mm args below meth c H locs la C hz hW hS hl) (fun h => kf (by rw [← er_zero] at h; exact Int.not_lt.mp (fun z => h ((er_ofInt_lt hy hx).mpr z))) p e s mm args below meth c H locs la C hz hW hS hl)
theorem er_icmp_le {x y : Int} {off : Int} {tgt : Nat} (ht : (pc : Int) + off = (tgt : Int)) (hx : er_in x) (hy : er_in y) (hd : decode i.2.1 pc = .ok (.if_icmp .le off, 3)) (kt : x ≤ y → er_WP K i uc us sh m tgt ls st Z) (kf : y < x → er_WP K i uc us sh m (pc + 3) ls st Z) : er_WP K i uc us sh m pc ls (.inl y :: .inl x :: st) Z := by
  intro p e s mm args below meth c H locs la C hz hW hS hl
  exact lv_icmp_le C.1 C.2.1 hd ht (fun h => kt ((er_ofInt_le hx hy).mp h) p e s mm args below meth c H locs la C hz hW hS hl) (fun h => kf (Int.not_le.mp (fun z => h ((er_ofInt_le hx hy).mpr z))) p e s mm args below meth c H locs la C hz hW hS hl)
theorem er_if_le {x : Int} {off : Int} {tgt : Nat} (ht : (pc : Int) + off = (tgt : Int)) (hx : er_in x) (hd : decode i.2.1 pc = .ok (.ifCond .le off, 3)) (kt : x ≤ 0 → er_WP K i uc us sh m tgt ls st Z) (kf : 0 < x → er_WP K i uc us sh m (pc + 3) ls st Z) : er_WP K i uc us sh m pc ls (.inl x :: st) Z := by
  have hy : er_in 0 := ⟨by omega, by omega⟩
  intro p e s mm args below meth c H locs la C hz hW hS hl
  exact lv_if_le C.1 C.2.1 hd ht (fun h => kt (by rw [← er_zero] at h; exact (er_ofInt_le hx hy).mp h) p e s mm args below meth c H locs la C hz hW hS hl) (fun h => kf (by rw [← er_zero] at h; exact Int.not_le.mp (fun z => h ((er_ofInt_le hx hy).mpr z))) p e s mm args below meth c H locs la C hz hW hS hl)
end ER
