/-! THE CLAIM OUT OF ONE WALK OF THE LAW'S BODY. Your part is whole_start (and what it stands on); all else here is the same for every law, but numbers. -/
def R_law : String := "WarmWallLaw"
def lw_P (b : Addr) (xs : List Int32) (args : Array Value) (s : State) : Prop := args = #[.ref b] ∧ s.IntsAt b xs ∧ xs.length ≤ 3072 ∧ (Jvm.Cond.and given_1 narrow_1).before args s = true
def lw_Q (_ : Array Value) (s : State) (o : Outcome) (t : State) : Prop := o = .returned (some (.int 1)) ∧ Framed s o t [] 601024 7293034
def lw_Z (below : List Frame) (a : Array Value) (s : State) : State → Prop := fun t => ∃ o, t.status = .running ∧ Ended t below o ∧ lw_Q a s o t
/-- the law's own end, with 1 on the stack, nothing written that was there before, its room as the claim has it -/
theorem lw_ret {p : Program} {l : Launch} {e : Env} {s : State} {m : MethodId} {below : List Frame} {meth : Method} {c : Code} {b : Nat} (hx : p.tables.exec = Jvm.exec) (hb : c.code = code) (hr : meth.sig.returnType = ret) (hlocks : meth.locks = false) {pc : Nat} {H : Heap} {ls : Array Slot} (hdg : decode code pc = .ok (.ireturn, 1)) : W p l e room_1 s m #[Value.ref b] below meth c H [] 601024 7293034 (lw_Z below #[Value.ref b] s) (F0 m pc ls [.int 1]) := by
  intro T hT X
  obtain ⟨fs, hret, hrun, hended, hW, hframe⟩ := X.leave (v := some (.int 1)) (hlocks := hlocks) (fun h => by rw [hr] at h; cases h)
  have hmeth' : T.vm.method? m = some meth := X.method'
  refine ⟨T.setFrames fs, ?_, .returned (some (.int 1)), hrun, hended, rfl, ⟨_, rfl⟩, hW, hframe⟩
  jvm_step X.here [X.here.top, hx, hb, hdg, hmeth', hr, ret, narrow_b1]
  (try refine ⟨rfl, ?_⟩); (try refine ⟨rfl, ?_⟩)
  first | (intro acts; rw [hret _ acts rfl rfl rfl]) | rw [hret _ _ rfl rfl rfl]
  exact Steps.refl _
/-- what holds at the law's entry: the machine, the code, the tables' words (any of lw_tbl by 'hts w (by decide +kernel)'), the script of L ints xs at the cell b, what the Statement gives of the start (any of its parts by flat_of_before) -/
def lw_At (p : Program) (s : State) (m : MethodId) (meth : Method) (c : Code) (b L : Nat) (xs : Nat → Int32) : Prop :=
  p.tables.exec = Jvm.exec ∧ c.code = code ∧ meth.sig.returnType = ret ∧ c.maxLocals = 7 ∧ s.vm.findClass R_law = some m.cls ∧ (∀ w ∈ lw_tbl, w.before #[Value.ref b] s = true) ∧ va_X b L xs s s.heap ∧ b < s.heap.size ∧ meth.locks = false ∧ (Jvm.Cond.and given_1 narrow_1).before #[Value.ref b] s = true
/-! THE WORLD AT THE LAW'S ENTRY: what lies there, out of what the Statement gives -/
theorem ws_0 {args : Array Value} {s : State} {A : Nat → Prop} (hts : ∀ w ∈ lw_tbl, w.before args s = true) (hs : ∀ w ∈ flatC (Jvm.Cond.and given_1 narrow_1), w.before args s = true) (hA : ∀ a : Nat, a < s.heap.size → ¬ A a) : ∃ t : Nat, va_T .int t (zSTab.getD 0 []).length (fun j => .int (Int32.ofInt (zSA (-2 - ((0 : Nat) : Int)) ((j : Nat) : Int)))) A s s.heap ∧ va_Z "WarmWall$Wall" (zSNm.getD 0 "") "[I" (.ref t) A s s.heap := by
  have hel : ∀ j : Nat, j < 3 → (Term.elem (.static "WarmWall$Wall" "STONE_LEAST" "[I") (.int (Int32.ofNat j))).eval args s none [] s = some (.int (Int32.ofInt (zSA (-2 - ((0 : Nat) : Int)) ((j : Nat) : Int)))) := by
    intro j hj
    rcases (show j = 0 ∨ j = 1 ∨ j = 2 by omega) with rfl | rfl | rfl
    · exact (va_eqt (hs (.eq (.elem (.static "WarmWall$Wall" "STONE_LEAST" "[I") (.int 0)) (.int 0)) (by decide +kernel))).trans (congrArg (fun z : Int32 => some (Value.int z)) (show (0 : Int32) = Int32.ofInt (zSA (-2 - ((0 : Nat) : Int)) ((0 : Nat) : Int)) by decide +kernel))
    · exact (va_eqt (hs (.eq (.elem (.static "WarmWall$Wall" "STONE_LEAST" "[I") (.int 1)) (.int 1)) (by decide +kernel))).trans (congrArg (fun z : Int32 => some (Value.int z)) (show (1 : Int32) = Int32.ofInt (zSA (-2 - ((0 : Nat) : Int)) ((1 : Nat) : Int)) by decide +kernel))
    · exact (va_eqt (hs (.eq (.elem (.static "WarmWall$Wall" "STONE_LEAST" "[I") (.int 2)) (.int 0)) (by decide +kernel))).trans (congrArg (fun z : Int32 => some (Value.int z)) (show (0 : Int32) = Int32.ofInt (zSA (-2 - ((0 : Nat) : Int)) ((2 : Nat) : Int)) by decide +kernel))
  obtain ⟨t, ht, hT⟩ := va_Tof (tm := .static "WarmWall$Wall" "STONE_LEAST" "[I") (ty := .int) (N := 3) (f := fun j => .int (Int32.ofInt (zSA (-2 - ((0 : Nat) : Int)) ((j : Nat) : Int)))) (A := A) (by decide) (hs _ (by decide +kernel)) (va_eqt (hs (.eq (.length (.static "WarmWall$Wall" "STONE_LEAST" "[I")) (.int 3)) (by decide +kernel))) hel hA
  exact ⟨t, hT, va_Zref (hts _ (zat_mem (i := 1234) (by decide +kernel))) (hts _ (zat_mem (i := 1011) (by decide +kernel))) ht hA⟩
theorem ws_1 {args : Array Value} {s : State} {A : Nat → Prop} (hts : ∀ w ∈ lw_tbl, w.before args s = true) (hs : ∀ w ∈ flatC (Jvm.Cond.and given_1 narrow_1), w.before args s = true) (hA : ∀ a : Nat, a < s.heap.size → ¬ A a) : ∃ t : Nat, va_T .int t (zSTab.getD 1 []).length (fun j => .int (Int32.ofInt (zSA (-2 - ((1 : Nat) : Int)) ((j : Nat) : Int)))) A s s.heap ∧ va_Z "WarmWall$Wall" (zSNm.getD 1 "") "[I" (.ref t) A s s.heap := by
  have hel : ∀ j : Nat, j < 3 → (Term.elem (.static "WarmWall$Wall" "STONE_MOST" "[I") (.int (Int32.ofNat j))).eval args s none [] s = some (.int (Int32.ofInt (zSA (-2 - ((1 : Nat) : Int)) ((j : Nat) : Int)))) := by
    intro j hj
    rcases (show j = 0 ∨ j = 1 ∨ j = 2 by omega) with rfl | rfl | rfl
    · exact (va_eqt (hs (.eq (.elem (.static "WarmWall$Wall" "STONE_MOST" "[I") (.int 0)) (.int 9)) (by decide +kernel))).trans (congrArg (fun z : Int32 => some (Value.int z)) (show (9 : Int32) = Int32.ofInt (zSA (-2 - ((1 : Nat) : Int)) ((0 : Nat) : Int)) by decide +kernel))
    · exact (va_eqt (hs (.eq (.elem (.static "WarmWall$Wall" "STONE_MOST" "[I") (.int 1)) (.int 99)) (by decide +kernel))).trans (congrArg (fun z : Int32 => some (Value.int z)) (show (99 : Int32) = Int32.ofInt (zSA (-2 - ((1 : Nat) : Int)) ((1 : Nat) : Int)) by decide +kernel))
    · exact (va_eqt (hs (.eq (.elem (.static "WarmWall$Wall" "STONE_MOST" "[I") (.int 2)) (.int 10)) (by decide +kernel))).trans (congrArg (fun z : Int32 => some (Value.int z)) (show (10 : Int32) = Int32.ofInt (zSA (-2 - ((1 : Nat) : Int)) ((2 : Nat) : Int)) by decide +kernel))
  obtain ⟨t, ht, hT⟩ := va_Tof (tm := .static "WarmWall$Wall" "STONE_MOST" "[I") (ty := .int) (N := 3) (f := fun j => .int (Int32.ofInt (zSA (-2 - ((1 : Nat) : Int)) ((j : Nat) : Int)))) (A := A) (by decide) (hs _ (by decide +kernel)) (va_eqt (hs (.eq (.length (.static "WarmWall$Wall" "STONE_MOST" "[I")) (.int 3)) (by decide +kernel))) hel hA
  exact ⟨t, hT, va_Zref (hts _ (zat_mem (i := 1236) (by decide +kernel))) (hts _ (zat_mem (i := 1011) (by decide +kernel))) ht hA⟩
theorem ws_2 {args : Array Value} {s : State} {A : Nat → Prop} (hts : ∀ w ∈ lw_tbl, w.before args s = true) (hs : ∀ w ∈ flatC (Jvm.Cond.and given_1 narrow_1), w.before args s = true) (hA : ∀ a : Nat, a < s.heap.size → ¬ A a) : ∃ t : Nat, va_T .int t (zSTab.getD 2 []).length (fun j => .int (Int32.ofInt (zSA (-2 - ((2 : Nat) : Int)) ((j : Nat) : Int)))) A s s.heap ∧ va_Z "WarmWall$Wall" (zSNm.getD 2 "") "[I" (.ref t) A s s.heap := by
  have hel : ∀ j : Nat, j < 3 → (Term.elem (.static "WarmWall$Wall" "STONE_WITHOUT" "[I") (.int (Int32.ofNat j))).eval args s none [] s = some (.int (Int32.ofInt (zSA (-2 - ((2 : Nat) : Int)) ((j : Nat) : Int)))) := by
    intro j hj
    rcases (show j = 0 ∨ j = 1 ∨ j = 2 by omega) with rfl | rfl | rfl
    · exact (va_eqt (hs (.eq (.elem (.static "WarmWall$Wall" "STONE_WITHOUT" "[I") (.int 0)) (.int 3)) (by decide +kernel))).trans (congrArg (fun z : Int32 => some (Value.int z)) (show (3 : Int32) = Int32.ofInt (zSA (-2 - ((2 : Nat) : Int)) ((0 : Nat) : Int)) by decide +kernel))
    · exact (va_eqt (hs (.eq (.elem (.static "WarmWall$Wall" "STONE_WITHOUT" "[I") (.int 1)) (.int 60)) (by decide +kernel))).trans (congrArg (fun z : Int32 => some (Value.int z)) (show (60 : Int32) = Int32.ofInt (zSA (-2 - ((2 : Nat) : Int)) ((1 : Nat) : Int)) by decide +kernel))
    · exact (va_eqt (hs (.eq (.elem (.static "WarmWall$Wall" "STONE_WITHOUT" "[I") (.int 2)) (.int 3)) (by decide +kernel))).trans (congrArg (fun z : Int32 => some (Value.int z)) (show (3 : Int32) = Int32.ofInt (zSA (-2 - ((2 : Nat) : Int)) ((2 : Nat) : Int)) by decide +kernel))
  obtain ⟨t, ht, hT⟩ := va_Tof (tm := .static "WarmWall$Wall" "STONE_WITHOUT" "[I") (ty := .int) (N := 3) (f := fun j => .int (Int32.ofInt (zSA (-2 - ((2 : Nat) : Int)) ((j : Nat) : Int)))) (A := A) (by decide) (hs _ (by decide +kernel)) (va_eqt (hs (.eq (.length (.static "WarmWall$Wall" "STONE_WITHOUT" "[I")) (.int 3)) (by decide +kernel))) hel hA
  exact ⟨t, hT, va_Zref (hts _ (zat_mem (i := 1238) (by decide +kernel))) (hts _ (zat_mem (i := 1011) (by decide +kernel))) ht hA⟩
theorem ws_3 {args : Array Value} {s : State} {A : Nat → Prop} (hts : ∀ w ∈ lw_tbl, w.before args s = true) (hs : ∀ w ∈ flatC (Jvm.Cond.and given_1 narrow_1), w.before args s = true) (hA : ∀ a : Nat, a < s.heap.size → ¬ A a) : ∃ t : Nat, va_T .int t (zSTab.getD 3 []).length (fun j => .int (Int32.ofInt (zSA (-2 - ((3 : Nat) : Int)) ((j : Nat) : Int)))) A s s.heap ∧ va_Z "WarmWall$Wall" (zSNm.getD 3 "") "[I" (.ref t) A s s.heap := by
  have hel : ∀ j : Nat, j < 5 → (Term.elem (.static "WarmWall$Wall" "OVEN_LEAST" "[I") (.int (Int32.ofNat j))).eval args s none [] s = some (.int (Int32.ofInt (zSA (-2 - ((3 : Nat) : Int)) ((j : Nat) : Int)))) := by
    intro j hj
    rcases (show j = 0 ∨ j = 1 ∨ j = 2 ∨ j = 3 ∨ j = 4 by omega) with rfl | rfl | rfl | rfl | rfl
    · exact (va_eqt (hs (.eq (.elem (.static "WarmWall$Wall" "OVEN_LEAST" "[I") (.int 0)) (.int 0)) (by decide +kernel))).trans (congrArg (fun z : Int32 => some (Value.int z)) (show (0 : Int32) = Int32.ofInt (zSA (-2 - ((3 : Nat) : Int)) ((0 : Nat) : Int)) by decide +kernel))
    · exact (va_eqt (hs (.eq (.elem (.static "WarmWall$Wall" "OVEN_LEAST" "[I") (.int 1)) (.int 0)) (by decide +kernel))).trans (congrArg (fun z : Int32 => some (Value.int z)) (show (0 : Int32) = Int32.ofInt (zSA (-2 - ((3 : Nat) : Int)) ((1 : Nat) : Int)) by decide +kernel))
    · exact (va_eqt (hs (.eq (.elem (.static "WarmWall$Wall" "OVEN_LEAST" "[I") (.int 2)) (.int 0)) (by decide +kernel))).trans (congrArg (fun z : Int32 => some (Value.int z)) (show (0 : Int32) = Int32.ofInt (zSA (-2 - ((3 : Nat) : Int)) ((2 : Nat) : Int)) by decide +kernel))
    · exact (va_eqt (hs (.eq (.elem (.static "WarmWall$Wall" "OVEN_LEAST" "[I") (.int 3)) (.int 0)) (by decide +kernel))).trans (congrArg (fun z : Int32 => some (Value.int z)) (show (0 : Int32) = Int32.ofInt (zSA (-2 - ((3 : Nat) : Int)) ((3 : Nat) : Int)) by decide +kernel))
    · exact (va_eqt (hs (.eq (.elem (.static "WarmWall$Wall" "OVEN_LEAST" "[I") (.int 4)) (.int 0)) (by decide +kernel))).trans (congrArg (fun z : Int32 => some (Value.int z)) (show (0 : Int32) = Int32.ofInt (zSA (-2 - ((3 : Nat) : Int)) ((4 : Nat) : Int)) by decide +kernel))
  obtain ⟨t, ht, hT⟩ := va_Tof (tm := .static "WarmWall$Wall" "OVEN_LEAST" "[I") (ty := .int) (N := 5) (f := fun j => .int (Int32.ofInt (zSA (-2 - ((3 : Nat) : Int)) ((j : Nat) : Int)))) (A := A) (by decide) (hs _ (by decide +kernel)) (va_eqt (hs (.eq (.length (.static "WarmWall$Wall" "OVEN_LEAST" "[I")) (.int 5)) (by decide +kernel))) hel hA
  exact ⟨t, hT, va_Zref (hts _ (zat_mem (i := 2031) (by decide +kernel))) (hts _ (zat_mem (i := 1011) (by decide +kernel))) ht hA⟩
theorem ws_4 {args : Array Value} {s : State} {A : Nat → Prop} (hts : ∀ w ∈ lw_tbl, w.before args s = true) (hs : ∀ w ∈ flatC (Jvm.Cond.and given_1 narrow_1), w.before args s = true) (hA : ∀ a : Nat, a < s.heap.size → ¬ A a) : ∃ t : Nat, va_T .int t (zSTab.getD 4 []).length (fun j => .int (Int32.ofInt (zSA (-2 - ((4 : Nat) : Int)) ((j : Nat) : Int)))) A s s.heap ∧ va_Z "WarmWall$Wall" (zSNm.getD 4 "") "[I" (.ref t) A s s.heap := by
  have hel : ∀ j : Nat, j < 5 → (Term.elem (.static "WarmWall$Wall" "OVEN_MOST" "[I") (.int (Int32.ofNat j))).eval args s none [] s = some (.int (Int32.ofInt (zSA (-2 - ((4 : Nat) : Int)) ((j : Nat) : Int)))) := by
    intro j hj
    rcases (show j = 0 ∨ j = 1 ∨ j = 2 ∨ j = 3 ∨ j = 4 by omega) with rfl | rfl | rfl | rfl | rfl
    · exact (va_eqt (hs (.eq (.elem (.static "WarmWall$Wall" "OVEN_MOST" "[I") (.int 0)) (.int 3)) (by decide +kernel))).trans (congrArg (fun z : Int32 => some (Value.int z)) (show (3 : Int32) = Int32.ofInt (zSA (-2 - ((4 : Nat) : Int)) ((0 : Nat) : Int)) by decide +kernel))
    · exact (va_eqt (hs (.eq (.elem (.static "WarmWall$Wall" "OVEN_MOST" "[I") (.int 1)) (.int 5)) (by decide +kernel))).trans (congrArg (fun z : Int32 => some (Value.int z)) (show (5 : Int32) = Int32.ofInt (zSA (-2 - ((4 : Nat) : Int)) ((1 : Nat) : Int)) by decide +kernel))
    · exact (va_eqt (hs (.eq (.elem (.static "WarmWall$Wall" "OVEN_MOST" "[I") (.int 2)) (.int 23)) (by decide +kernel))).trans (congrArg (fun z : Int32 => some (Value.int z)) (show (23 : Int32) = Int32.ofInt (zSA (-2 - ((4 : Nat) : Int)) ((2 : Nat) : Int)) by decide +kernel))
    · exact (va_eqt (hs (.eq (.elem (.static "WarmWall$Wall" "OVEN_MOST" "[I") (.int 3)) (.int 23)) (by decide +kernel))).trans (congrArg (fun z : Int32 => some (Value.int z)) (show (23 : Int32) = Int32.ofInt (zSA (-2 - ((4 : Nat) : Int)) ((3 : Nat) : Int)) by decide +kernel))
    · exact (va_eqt (hs (.eq (.elem (.static "WarmWall$Wall" "OVEN_MOST" "[I") (.int 4)) (.int 20)) (by decide +kernel))).trans (congrArg (fun z : Int32 => some (Value.int z)) (show (20 : Int32) = Int32.ofInt (zSA (-2 - ((4 : Nat) : Int)) ((4 : Nat) : Int)) by decide +kernel))
  obtain ⟨t, ht, hT⟩ := va_Tof (tm := .static "WarmWall$Wall" "OVEN_MOST" "[I") (ty := .int) (N := 5) (f := fun j => .int (Int32.ofInt (zSA (-2 - ((4 : Nat) : Int)) ((j : Nat) : Int)))) (A := A) (by decide) (hs _ (by decide +kernel)) (va_eqt (hs (.eq (.length (.static "WarmWall$Wall" "OVEN_MOST" "[I")) (.int 5)) (by decide +kernel))) hel hA
  exact ⟨t, hT, va_Zref (hts _ (zat_mem (i := 2033) (by decide +kernel))) (hts _ (zat_mem (i := 1011) (by decide +kernel))) ht hA⟩
theorem ws_5 {args : Array Value} {s : State} {A : Nat → Prop} (hts : ∀ w ∈ lw_tbl, w.before args s = true) (hs : ∀ w ∈ flatC (Jvm.Cond.and given_1 narrow_1), w.before args s = true) (hA : ∀ a : Nat, a < s.heap.size → ¬ A a) : ∃ t : Nat, va_T .int t (zSTab.getD 5 []).length (fun j => .int (Int32.ofInt (zSA (-2 - ((5 : Nat) : Int)) ((j : Nat) : Int)))) A s s.heap ∧ va_Z "WarmWall$Wall" (zSNm.getD 5 "") "[I" (.ref t) A s s.heap := by
  have hel : ∀ j : Nat, j < 5 → (Term.elem (.static "WarmWall$Wall" "OVEN_WITHOUT" "[I") (.int (Int32.ofNat j))).eval args s none [] s = some (.int (Int32.ofInt (zSA (-2 - ((5 : Nat) : Int)) ((j : Nat) : Int)))) := by
    intro j hj
    rcases (show j = 0 ∨ j = 1 ∨ j = 2 ∨ j = 3 ∨ j = 4 by omega) with rfl | rfl | rfl | rfl | rfl
    · exact (va_eqt (hs (.eq (.elem (.static "WarmWall$Wall" "OVEN_WITHOUT" "[I") (.int 0)) (.int 0)) (by decide +kernel))).trans (congrArg (fun z : Int32 => some (Value.int z)) (show (0 : Int32) = Int32.ofInt (zSA (-2 - ((5 : Nat) : Int)) ((0 : Nat) : Int)) by decide +kernel))
    · exact (va_eqt (hs (.eq (.elem (.static "WarmWall$Wall" "OVEN_WITHOUT" "[I") (.int 1)) (.int 0)) (by decide +kernel))).trans (congrArg (fun z : Int32 => some (Value.int z)) (show (0 : Int32) = Int32.ofInt (zSA (-2 - ((5 : Nat) : Int)) ((1 : Nat) : Int)) by decide +kernel))
    · exact (va_eqt (hs (.eq (.elem (.static "WarmWall$Wall" "OVEN_WITHOUT" "[I") (.int 2)) (.int 4)) (by decide +kernel))).trans (congrArg (fun z : Int32 => some (Value.int z)) (show (4 : Int32) = Int32.ofInt (zSA (-2 - ((5 : Nat) : Int)) ((2 : Nat) : Int)) by decide +kernel))
    · exact (va_eqt (hs (.eq (.elem (.static "WarmWall$Wall" "OVEN_WITHOUT" "[I") (.int 3)) (.int 7)) (by decide +kernel))).trans (congrArg (fun z : Int32 => some (Value.int z)) (show (7 : Int32) = Int32.ofInt (zSA (-2 - ((5 : Nat) : Int)) ((3 : Nat) : Int)) by decide +kernel))
    · exact (va_eqt (hs (.eq (.elem (.static "WarmWall$Wall" "OVEN_WITHOUT" "[I") (.int 4)) (.int 8)) (by decide +kernel))).trans (congrArg (fun z : Int32 => some (Value.int z)) (show (8 : Int32) = Int32.ofInt (zSA (-2 - ((5 : Nat) : Int)) ((4 : Nat) : Int)) by decide +kernel))
  obtain ⟨t, ht, hT⟩ := va_Tof (tm := .static "WarmWall$Wall" "OVEN_WITHOUT" "[I") (ty := .int) (N := 5) (f := fun j => .int (Int32.ofInt (zSA (-2 - ((5 : Nat) : Int)) ((j : Nat) : Int)))) (A := A) (by decide) (hs _ (by decide +kernel)) (va_eqt (hs (.eq (.length (.static "WarmWall$Wall" "OVEN_WITHOUT" "[I")) (.int 5)) (by decide +kernel))) hel hA
  exact ⟨t, hT, va_Zref (hts _ (zat_mem (i := 2035) (by decide +kernel))) (hts _ (zat_mem (i := 1011) (by decide +kernel))) ht hA⟩
theorem ws_6 {args : Array Value} {s : State} {A : Nat → Prop} (hts : ∀ w ∈ lw_tbl, w.before args s = true) (hs : ∀ w ∈ flatC (Jvm.Cond.and given_1 narrow_1), w.before args s = true) (hA : ∀ a : Nat, a < s.heap.size → ¬ A a) : ∃ t : Nat, va_T .int t (zSTab.getD 6 []).length (fun j => .int (Int32.ofInt (zSA (-2 - ((6 : Nat) : Int)) ((j : Nat) : Int)))) A s s.heap ∧ va_Z "WarmWall$Wall" (zSNm.getD 6 "") "[I" (.ref t) A s s.heap := by
  have hel : ∀ j : Nat, j < 2 → (Term.elem (.static "WarmWall$Wall" "SLEEPER_LEAST" "[I") (.int (Int32.ofNat j))).eval args s none [] s = some (.int (Int32.ofInt (zSA (-2 - ((6 : Nat) : Int)) ((j : Nat) : Int)))) := by
    intro j hj
    rcases (show j = 0 ∨ j = 1 by omega) with rfl | rfl
    · exact (va_eqt (hs (.eq (.elem (.static "WarmWall$Wall" "SLEEPER_LEAST" "[I") (.int 0)) (.int 0)) (by decide +kernel))).trans (congrArg (fun z : Int32 => some (Value.int z)) (show (0 : Int32) = Int32.ofInt (zSA (-2 - ((6 : Nat) : Int)) ((0 : Nat) : Int)) by decide +kernel))
    · exact (va_eqt (hs (.eq (.elem (.static "WarmWall$Wall" "SLEEPER_LEAST" "[I") (.int 1)) (.int 0)) (by decide +kernel))).trans (congrArg (fun z : Int32 => some (Value.int z)) (show (0 : Int32) = Int32.ofInt (zSA (-2 - ((6 : Nat) : Int)) ((1 : Nat) : Int)) by decide +kernel))
  obtain ⟨t, ht, hT⟩ := va_Tof (tm := .static "WarmWall$Wall" "SLEEPER_LEAST" "[I") (ty := .int) (N := 2) (f := fun j => .int (Int32.ofInt (zSA (-2 - ((6 : Nat) : Int)) ((j : Nat) : Int)))) (A := A) (by decide) (hs _ (by decide +kernel)) (va_eqt (hs (.eq (.length (.static "WarmWall$Wall" "SLEEPER_LEAST" "[I")) (.int 2)) (by decide +kernel))) hel hA
  exact ⟨t, hT, va_Zref (hts _ (zat_mem (i := 2038) (by decide +kernel))) (hts _ (zat_mem (i := 1011) (by decide +kernel))) ht hA⟩
theorem ws_7 {args : Array Value} {s : State} {A : Nat → Prop} (hts : ∀ w ∈ lw_tbl, w.before args s = true) (hs : ∀ w ∈ flatC (Jvm.Cond.and given_1 narrow_1), w.before args s = true) (hA : ∀ a : Nat, a < s.heap.size → ¬ A a) : ∃ t : Nat, va_T .int t (zSTab.getD 7 []).length (fun j => .int (Int32.ofInt (zSA (-2 - ((7 : Nat) : Int)) ((j : Nat) : Int)))) A s s.heap ∧ va_Z "WarmWall$Wall" (zSNm.getD 7 "") "[I" (.ref t) A s s.heap := by
  have hel : ∀ j : Nat, j < 2 → (Term.elem (.static "WarmWall$Wall" "SLEEPER_MOST" "[I") (.int (Int32.ofNat j))).eval args s none [] s = some (.int (Int32.ofInt (zSA (-2 - ((7 : Nat) : Int)) ((j : Nat) : Int)))) := by
    intro j hj
    rcases (show j = 0 ∨ j = 1 by omega) with rfl | rfl
    · exact (va_eqt (hs (.eq (.elem (.static "WarmWall$Wall" "SLEEPER_MOST" "[I") (.int 0)) (.int 99)) (by decide +kernel))).trans (congrArg (fun z : Int32 => some (Value.int z)) (show (99 : Int32) = Int32.ofInt (zSA (-2 - ((7 : Nat) : Int)) ((0 : Nat) : Int)) by decide +kernel))
    · exact (va_eqt (hs (.eq (.elem (.static "WarmWall$Wall" "SLEEPER_MOST" "[I") (.int 1)) (.int 9)) (by decide +kernel))).trans (congrArg (fun z : Int32 => some (Value.int z)) (show (9 : Int32) = Int32.ofInt (zSA (-2 - ((7 : Nat) : Int)) ((1 : Nat) : Int)) by decide +kernel))
  obtain ⟨t, ht, hT⟩ := va_Tof (tm := .static "WarmWall$Wall" "SLEEPER_MOST" "[I") (ty := .int) (N := 2) (f := fun j => .int (Int32.ofInt (zSA (-2 - ((7 : Nat) : Int)) ((j : Nat) : Int)))) (A := A) (by decide) (hs _ (by decide +kernel)) (va_eqt (hs (.eq (.length (.static "WarmWall$Wall" "SLEEPER_MOST" "[I")) (.int 2)) (by decide +kernel))) hel hA
  exact ⟨t, hT, va_Zref (hts _ (zat_mem (i := 2040) (by decide +kernel))) (hts _ (zat_mem (i := 1011) (by decide +kernel))) ht hA⟩
theorem ws_8 {args : Array Value} {s : State} {A : Nat → Prop} (hts : ∀ w ∈ lw_tbl, w.before args s = true) (hs : ∀ w ∈ flatC (Jvm.Cond.and given_1 narrow_1), w.before args s = true) (hA : ∀ a : Nat, a < s.heap.size → ¬ A a) : ∃ t : Nat, va_T .int t (zSTab.getD 8 []).length (fun j => .int (Int32.ofInt (zSA (-2 - ((8 : Nat) : Int)) ((j : Nat) : Int)))) A s s.heap ∧ va_Z "WarmWall$Wall" (zSNm.getD 8 "") "[I" (.ref t) A s s.heap := by
  have hel : ∀ j : Nat, j < 2 → (Term.elem (.static "WarmWall$Wall" "SLEEPER_WITHOUT" "[I") (.int (Int32.ofNat j))).eval args s none [] s = some (.int (Int32.ofInt (zSA (-2 - ((8 : Nat) : Int)) ((j : Nat) : Int)))) := by
    intro j hj
    rcases (show j = 0 ∨ j = 1 by omega) with rfl | rfl
    · exact (va_eqt (hs (.eq (.elem (.static "WarmWall$Wall" "SLEEPER_WITHOUT" "[I") (.int 0)) (.int 5)) (by decide +kernel))).trans (congrArg (fun z : Int32 => some (Value.int z)) (show (5 : Int32) = Int32.ofInt (zSA (-2 - ((8 : Nat) : Int)) ((0 : Nat) : Int)) by decide +kernel))
    · exact (va_eqt (hs (.eq (.elem (.static "WarmWall$Wall" "SLEEPER_WITHOUT" "[I") (.int 1)) (.int 0)) (by decide +kernel))).trans (congrArg (fun z : Int32 => some (Value.int z)) (show (0 : Int32) = Int32.ofInt (zSA (-2 - ((8 : Nat) : Int)) ((1 : Nat) : Int)) by decide +kernel))
  obtain ⟨t, ht, hT⟩ := va_Tof (tm := .static "WarmWall$Wall" "SLEEPER_WITHOUT" "[I") (ty := .int) (N := 2) (f := fun j => .int (Int32.ofInt (zSA (-2 - ((8 : Nat) : Int)) ((j : Nat) : Int)))) (A := A) (by decide) (hs _ (by decide +kernel)) (va_eqt (hs (.eq (.length (.static "WarmWall$Wall" "SLEEPER_WITHOUT" "[I")) (.int 2)) (by decide +kernel))) hel hA
  exact ⟨t, hT, va_Zref (hts _ (zat_mem (i := 2042) (by decide +kernel))) (hts _ (zat_mem (i := 1011) (by decide +kernel))) ht hA⟩
theorem wt_0 {args : Array Value} {s : State} {A : Nat → Prop} (hts : ∀ w ∈ lw_tbl, w.before args s = true) (hs : ∀ w ∈ flatC (Jvm.Cond.and given_1 narrow_1), w.before args s = true) (hA : ∀ a : Nat, a < s.heap.size → ¬ A a) : ∃ a v : Nat, (va_O "java/lang/String" a A s s.heap ∧ va_OF "java/lang/String" "coder" "B" (.int 0) a A s s.heap ∧ va_OF "java/lang/String" "value" "[B" (.ref v) a A s s.heap ∧ va_T .byte v (zLTab.getD 0 []).length (fun j => .int (Int32.ofInt (zLA (-31 - ((0 : Nat) : Int)) ((j : Nat) : Int)))) A s s.heap) ∧ vk_R "WarmWall$Wall" 11 "thg" a s := by
  have hel : ∀ j : Nat, j < 3 → (Term.elem (.field (.string "WarmWall$Wall" 11) "java/lang/String" "value" "[B") (.int (Int32.ofNat j))).eval args s none [] s = some (.int (Int32.ofInt (zLA (-31 - ((0 : Nat) : Int)) ((j : Nat) : Int)))) := by
    intro j hj
    rcases (show j = 0 ∨ j = 1 ∨ j = 2 by omega) with rfl | rfl | rfl
    · exact (va_eqt (hs (.eq (.elem (.field (.string "WarmWall$Wall" 11) "java/lang/String" "value" "[B") (.int 0)) (.int 116)) (by decide +kernel))).trans (congrArg (fun z : Int32 => some (Value.int z)) (show (116 : Int32) = Int32.ofInt (zLA (-31 - ((0 : Nat) : Int)) ((0 : Nat) : Int)) by decide +kernel))
    · exact (va_eqt (hs (.eq (.elem (.field (.string "WarmWall$Wall" 11) "java/lang/String" "value" "[B") (.int 1)) (.int 104)) (by decide +kernel))).trans (congrArg (fun z : Int32 => some (Value.int z)) (show (104 : Int32) = Int32.ofInt (zLA (-31 - ((0 : Nat) : Int)) ((1 : Nat) : Int)) by decide +kernel))
    · exact (va_eqt (hs (.eq (.elem (.field (.string "WarmWall$Wall" 11) "java/lang/String" "value" "[B") (.int 2)) (.int 103)) (by decide +kernel))).trans (congrArg (fun z : Int32 => some (Value.int z)) (show (103 : Int32) = Int32.ofInt (zLA (-31 - ((0 : Nat) : Int)) ((2 : Nat) : Int)) by decide +kernel))
  obtain ⟨a, _, _, _, ha, -⟩ := Cond.exactly_spec (args := args) (first := s) (o := none) (s := s) (idx := []) (t := .string "WarmWall$Wall" 11) (cls := "java/lang/String") (hs (.exactly (.string "WarmWall$Wall" 11) "java/lang/String") (by decide +kernel))
  obtain ⟨t, ht, hT⟩ := va_Tof (tm := .field (.string "WarmWall$Wall" 11) "java/lang/String" "value" "[B") (ty := .byte) (N := 3) (f := fun j => .int (Int32.ofInt (zLA (-31 - ((0 : Nat) : Int)) ((j : Nat) : Int)))) (A := A) (by decide) (hs _ (by decide +kernel)) (va_eqt (hs (.eq (.length (.field (.string "WarmWall$Wall" 11) "java/lang/String" "value" "[B")) (.int 3)) (by decide +kernel))) hel hA
  exact ⟨a, t, ⟨va_Oof (hs (.exactly (.string "WarmWall$Wall" 11) "java/lang/String") (by decide +kernel)) ha hA, vk_OFof ha (va_eqt (hs (.eq (.field (.string "WarmWall$Wall" 11) "java/lang/String" "coder" "B") (.int 0)) (by decide +kernel))) hA, vk_OFof ha ht hA, hT⟩, vk_R.of (hts _ (zat_mem (i := 1232) (by decide +kernel))) ha⟩
theorem wt_1 {args : Array Value} {s : State} {A : Nat → Prop} (hts : ∀ w ∈ lw_tbl, w.before args s = true) (hs : ∀ w ∈ flatC (Jvm.Cond.and given_1 narrow_1), w.before args s = true) (hA : ∀ a : Nat, a < s.heap.size → ¬ A a) : ∃ a v : Nat, (va_O "java/lang/String" a A s s.heap ∧ va_OF "java/lang/String" "coder" "B" (.int 0) a A s s.heap ∧ va_OF "java/lang/String" "value" "[B" (.ref v) a A s s.heap ∧ va_T .byte v (zLTab.getD 1 []).length (fun j => .int (Int32.ofInt (zLA (-31 - ((1 : Nat) : Int)) ((j : Nat) : Int)))) A s s.heap) ∧ vk_R "WarmWall$Wall" 32 "rcfuh" a s := by
  have hel : ∀ j : Nat, j < 5 → (Term.elem (.field (.string "WarmWall$Wall" 32) "java/lang/String" "value" "[B") (.int (Int32.ofNat j))).eval args s none [] s = some (.int (Int32.ofInt (zLA (-31 - ((1 : Nat) : Int)) ((j : Nat) : Int)))) := by
    intro j hj
    rcases (show j = 0 ∨ j = 1 ∨ j = 2 ∨ j = 3 ∨ j = 4 by omega) with rfl | rfl | rfl | rfl | rfl
    · exact (va_eqt (hs (.eq (.elem (.field (.string "WarmWall$Wall" 32) "java/lang/String" "value" "[B") (.int 0)) (.int 114)) (by decide +kernel))).trans (congrArg (fun z : Int32 => some (Value.int z)) (show (114 : Int32) = Int32.ofInt (zLA (-31 - ((1 : Nat) : Int)) ((0 : Nat) : Int)) by decide +kernel))
    · exact (va_eqt (hs (.eq (.elem (.field (.string "WarmWall$Wall" 32) "java/lang/String" "value" "[B") (.int 1)) (.int 99)) (by decide +kernel))).trans (congrArg (fun z : Int32 => some (Value.int z)) (show (99 : Int32) = Int32.ofInt (zLA (-31 - ((1 : Nat) : Int)) ((1 : Nat) : Int)) by decide +kernel))
    · exact (va_eqt (hs (.eq (.elem (.field (.string "WarmWall$Wall" 32) "java/lang/String" "value" "[B") (.int 2)) (.int 102)) (by decide +kernel))).trans (congrArg (fun z : Int32 => some (Value.int z)) (show (102 : Int32) = Int32.ofInt (zLA (-31 - ((1 : Nat) : Int)) ((2 : Nat) : Int)) by decide +kernel))
    · exact (va_eqt (hs (.eq (.elem (.field (.string "WarmWall$Wall" 32) "java/lang/String" "value" "[B") (.int 3)) (.int 117)) (by decide +kernel))).trans (congrArg (fun z : Int32 => some (Value.int z)) (show (117 : Int32) = Int32.ofInt (zLA (-31 - ((1 : Nat) : Int)) ((3 : Nat) : Int)) by decide +kernel))
    · exact (va_eqt (hs (.eq (.elem (.field (.string "WarmWall$Wall" 32) "java/lang/String" "value" "[B") (.int 4)) (.int 104)) (by decide +kernel))).trans (congrArg (fun z : Int32 => some (Value.int z)) (show (104 : Int32) = Int32.ofInt (zLA (-31 - ((1 : Nat) : Int)) ((4 : Nat) : Int)) by decide +kernel))
  obtain ⟨a, _, _, _, ha, -⟩ := Cond.exactly_spec (args := args) (first := s) (o := none) (s := s) (idx := []) (t := .string "WarmWall$Wall" 32) (cls := "java/lang/String") (hs (.exactly (.string "WarmWall$Wall" 32) "java/lang/String") (by decide +kernel))
  obtain ⟨t, ht, hT⟩ := va_Tof (tm := .field (.string "WarmWall$Wall" 32) "java/lang/String" "value" "[B") (ty := .byte) (N := 5) (f := fun j => .int (Int32.ofInt (zLA (-31 - ((1 : Nat) : Int)) ((j : Nat) : Int)))) (A := A) (by decide) (hs _ (by decide +kernel)) (va_eqt (hs (.eq (.length (.field (.string "WarmWall$Wall" 32) "java/lang/String" "value" "[B")) (.int 5)) (by decide +kernel))) hel hA
  exact ⟨a, t, ⟨va_Oof (hs (.exactly (.string "WarmWall$Wall" 32) "java/lang/String") (by decide +kernel)) ha hA, vk_OFof ha (va_eqt (hs (.eq (.field (.string "WarmWall$Wall" 32) "java/lang/String" "coder" "B") (.int 0)) (by decide +kernel))) hA, vk_OFof ha ht hA, hT⟩, vk_R.of (hts _ (zat_mem (i := 2029) (by decide +kernel))) ha⟩
theorem wt_2 {args : Array Value} {s : State} {A : Nat → Prop} (hts : ∀ w ∈ lw_tbl, w.before args s = true) (hs : ∀ w ∈ flatC (Jvm.Cond.and given_1 narrow_1), w.before args s = true) (hA : ∀ a : Nat, a < s.heap.size → ¬ A a) : ∃ a v : Nat, (va_O "java/lang/String" a A s s.heap ∧ va_OF "java/lang/String" "coder" "B" (.int 0) a A s s.heap ∧ va_OF "java/lang/String" "value" "[B" (.ref v) a A s s.heap ∧ va_T .byte v (zLTab.getD 2 []).length (fun j => .int (Int32.ofInt (zLA (-31 - ((2 : Nat) : Int)) ((j : Nat) : Int)))) A s s.heap) ∧ vk_R "WarmWall$Wall" 46 "wf" a s := by
  have hel : ∀ j : Nat, j < 2 → (Term.elem (.field (.string "WarmWall$Wall" 46) "java/lang/String" "value" "[B") (.int (Int32.ofNat j))).eval args s none [] s = some (.int (Int32.ofInt (zLA (-31 - ((2 : Nat) : Int)) ((j : Nat) : Int)))) := by
    intro j hj
    rcases (show j = 0 ∨ j = 1 by omega) with rfl | rfl
    · exact (va_eqt (hs (.eq (.elem (.field (.string "WarmWall$Wall" 46) "java/lang/String" "value" "[B") (.int 0)) (.int 119)) (by decide +kernel))).trans (congrArg (fun z : Int32 => some (Value.int z)) (show (119 : Int32) = Int32.ofInt (zLA (-31 - ((2 : Nat) : Int)) ((0 : Nat) : Int)) by decide +kernel))
    · exact (va_eqt (hs (.eq (.elem (.field (.string "WarmWall$Wall" 46) "java/lang/String" "value" "[B") (.int 1)) (.int 102)) (by decide +kernel))).trans (congrArg (fun z : Int32 => some (Value.int z)) (show (102 : Int32) = Int32.ofInt (zLA (-31 - ((2 : Nat) : Int)) ((1 : Nat) : Int)) by decide +kernel))
  obtain ⟨a, _, _, _, ha, -⟩ := Cond.exactly_spec (args := args) (first := s) (o := none) (s := s) (idx := []) (t := .string "WarmWall$Wall" 46) (cls := "java/lang/String") (hs (.exactly (.string "WarmWall$Wall" 46) "java/lang/String") (by decide +kernel))
  obtain ⟨t, ht, hT⟩ := va_Tof (tm := .field (.string "WarmWall$Wall" 46) "java/lang/String" "value" "[B") (ty := .byte) (N := 2) (f := fun j => .int (Int32.ofInt (zLA (-31 - ((2 : Nat) : Int)) ((j : Nat) : Int)))) (A := A) (by decide) (hs _ (by decide +kernel)) (va_eqt (hs (.eq (.length (.field (.string "WarmWall$Wall" 46) "java/lang/String" "value" "[B")) (.int 2)) (by decide +kernel))) hel hA
  exact ⟨a, t, ⟨va_Oof (hs (.exactly (.string "WarmWall$Wall" 46) "java/lang/String") (by decide +kernel)) ha hA, vk_OFof ha (va_eqt (hs (.eq (.field (.string "WarmWall$Wall" 46) "java/lang/String" "coder" "B") (.int 0)) (by decide +kernel))) hA, vk_OFof ha ht hA, hT⟩, vk_R.of (hts _ (zat_mem (i := 2036) (by decide +kernel))) ha⟩
theorem wx {args : Array Value} {s : State} {A : Nat → Prop} (hts : ∀ w ∈ lw_tbl, w.before args s = true) (hs : ∀ w ∈ flatC (Jvm.Cond.and given_1 narrow_1), w.before args s = true) (hA : ∀ a : Nat, a < s.heap.size → ¬ A a) : zXt s := by
  obtain ⟨a0, _, _, _, ha0, -⟩ := Cond.exactly_spec (args := args) (first := s) (o := none) (s := s) (idx := []) (t := .string "WarmWall" 140) (cls := "java/lang/String") (hs (.exactly (.string "WarmWall" 140) "java/lang/String") (by decide +kernel))
  obtain ⟨a1, _, _, _, ha1, -⟩ := Cond.exactly_spec (args := args) (first := s) (o := none) (s := s) (idx := []) (t := .string "WarmWall" 170) (cls := "java/lang/String") (hs (.exactly (.string "WarmWall" 170) "java/lang/String") (by decide +kernel))
  exact ⟨⟨⟨a0, vk_R.of (hts _ (zat_mem (i := 5002) (by decide +kernel))) ha0⟩, ⟨a1, vk_R.of (hts _ (zat_mem (i := 5029) (by decide +kernel))) ha1⟩⟩, va_Nw.of rfl (hts _ (zat_mem (i := 4205) (by decide +kernel))), va_Nw.of rfl (hts _ (zat_mem (i := 4207) (by decide +kernel))), va_Nw.of rfl (hts _ (zat_mem (i := 4209) (by decide +kernel))), va_Nw.of rfl (hts _ (zat_mem (i := 4211) (by decide +kernel)))⟩
theorem wk_0 {args : Array Value} {s : State} (hts : ∀ w ∈ lw_tbl, w.before args s = true) : ∀ ci : Nat, ∃ (cC : ClassId) (iS : Nat → Nat), ∀ r : vw_C, zcl[ci]? = some r → u_Kn s r.1 r.2.1 r.2.2 cC iS := by
  intro ci
  have hz : ∀ w ∈ zws, w.before args s = true := fun w hw => hts w (List.mem_filter.mp hw).1
  match ci with
  | 0 =>
    obtain ⟨cC, iS, h⟩ := u_known (n := 9) hz zin0 (hts _ (zat_mem (i := 1135) (by decide +kernel)))
    exact ⟨cC, iS, fun r hr => by cases hr; exact h⟩
  | 1 =>
    obtain ⟨cC, iS, h⟩ := u_known (n := 7) hz zin1 (hts _ (zat_mem (i := 1231) (by decide +kernel)))
    exact ⟨cC, iS, fun r hr => by cases hr; exact h⟩
  | 2 =>
    obtain ⟨cC, iS, h⟩ := u_known (n := 4) hz zin2 (hts _ (zat_mem (i := 1093) (by decide +kernel)))
    exact ⟨cC, iS, fun r hr => by cases hr; exact h⟩
  | 3 =>
    obtain ⟨cC, iS, h⟩ := u_known (n := 2) hz zin3 (hts _ (zat_mem (i := 1077) (by decide +kernel)))
    exact ⟨cC, iS, fun r hr => by cases hr; exact h⟩
  | 4 =>
    obtain ⟨cC, iS, h⟩ := u_known (n := 6) hz zin4 (hts _ (zat_mem (i := 1179) (by decide +kernel)))
    exact ⟨cC, iS, fun r hr => by cases hr; exact h⟩
  | 5 =>
    obtain ⟨cC, iS, h⟩ := u_known (n := 6) hz zin5 (hts _ (zat_mem (i := 1086) (by decide +kernel)))
    exact ⟨cC, iS, fun r hr => by cases hr; exact h⟩
  | 6 =>
    obtain ⟨cC, iS, h⟩ := u_known (n := 2) hz zin6 (hts _ (zat_mem (i := 1034) (by decide +kernel)))
    exact ⟨cC, iS, fun r hr => by cases hr; exact h⟩
  | 7 =>
    obtain ⟨cC, iS, h⟩ := u_known (n := 4) hz zin7 (hts _ (zat_mem (i := 1205) (by decide +kernel)))
    exact ⟨cC, iS, fun r hr => by cases hr; exact h⟩
  | 8 =>
    obtain ⟨cC, iS, h⟩ := u_known (n := 12) hz zin8 (hts _ (zat_mem (i := 1225) (by decide +kernel)))
    exact ⟨cC, iS, fun r hr => by cases hr; exact h⟩
  | 9 =>
    obtain ⟨cC, iS, h⟩ := u_known (n := 2) hz zin9 (hts _ (zat_mem (i := 1053) (by decide +kernel)))
    exact ⟨cC, iS, fun r hr => by cases hr; exact h⟩
  | 10 =>
    obtain ⟨cC, iS, h⟩ := u_known (n := 12) hz zin10 (hts _ (zat_mem (i := 1026) (by decide +kernel)))
    exact ⟨cC, iS, fun r hr => by cases hr; exact h⟩
  | 11 =>
    obtain ⟨cC, iS, h⟩ := u_known (n := 63) hz zin11 (hts _ (zat_mem (i := 5031) (by decide +kernel)))
    exact ⟨cC, iS, fun r hr => by cases hr; exact h⟩
  | n + 12 => exact ⟨0, fun _ => 0, fun r hr => by simp [zcl] at hr⟩
theorem wk_a {args : Array Value} {s : State} {ty : FieldType} (h : (Cond.arrayClass ty).before args s = true) (hty : ∀ C : String, ty ≠ .object C) : ∃ cA : ClassId, ArrOfT s cA ty ∧ va_RA s cA ty := by
  obtain ⟨c, k, comp, h1, h2, h3⟩ := Cond.arrayClass_spec (args := args) (first := s) (o := none) (s := s) (idx := []) h
  refine ⟨c, fun n z => ⟨fun k h => (by cases h), k, h2, comp, h3⟩, ?_⟩
  cases ty with
  | object C => exact absurd rfl (hty C)
  | _ => exact h1
theorem wk_l {args : Array Value} {s : State} {C : String} (h : (Cond.arrayOver (.object C)).before args s = true) : ∃ cA : ClassId, ArrOfT s cA (.object C) ∧ va_RA s cA (.object C) := by
  obtain ⟨comp, c, k, h1, h2, h3, h4, h5⟩ := Cond.arrayOver_spec h
  exact ⟨c, fun n z => ⟨fun k h => (by cases h), k, h3, comp, h4⟩, k, comp, h3, h4, h1, h5⟩
theorem zc_5 {G : zG} {x : Int} : zc G (5, x) = if x = 0 then .null else .ref x.toNat := rfl
/-- the world of the law's entry -/
theorem lw_world {p : Program} {s : State} {m : MethodId} {meth : Method} {c : Code} {b L : Nat} {xs : Nat → Int32} (hL : L ≤ 3072) (C0 : lw_At p s m meth c b L xs) : ∃ G : zG, zgB G = s.heap.size ∧ zgL G = (L : Int) ∧ zgA G (-20) = b ∧ zKt G s ∧ zSt G s s.heap ∧ zXt s := by
  obtain ⟨hx, hb, hr, hml, hown, hts, hX, hbl, hlocks, hgv⟩ := id C0
  have hs := flat_of_before _ hgv
  have hA : ∀ a : Nat, a < s.heap.size → ¬ (fun q : Nat => s.heap.size ≤ q) a := fun a h => Nat.not_le.mpr h
  obtain ⟨t0, hT0, hZ0⟩ := ws_0 hts hs hA
  obtain ⟨t1, hT1, hZ1⟩ := ws_1 hts hs hA
  obtain ⟨t2, hT2, hZ2⟩ := ws_2 hts hs hA
  obtain ⟨t3, hT3, hZ3⟩ := ws_3 hts hs hA
  obtain ⟨t4, hT4, hZ4⟩ := ws_4 hts hs hA
  obtain ⟨t5, hT5, hZ5⟩ := ws_5 hts hs hA
  obtain ⟨t6, hT6, hZ6⟩ := ws_6 hts hs hA
  obtain ⟨t7, hT7, hZ7⟩ := ws_7 hts hs hA
  obtain ⟨t8, hT8, hZ8⟩ := ws_8 hts hs hA
  obtain ⟨a0, v0, hO0, hR0⟩ := wt_0 hts hs hA
  obtain ⟨a1, v1, hO1, hR1⟩ := wt_1 hts hs hA
  obtain ⟨a2, v2, hO2, hR2⟩ := wt_2 hts hs hA
  obtain ⟨cI, hcI⟩ := wk_a (ty := .int) (hts _ (zat_mem (i := 1051) (by decide +kernel))) (fun C h => by cases h)
  obtain ⟨cZ, hcZ⟩ := wk_a (ty := .boolean) (hts _ (zat_mem (i := 5226) (by decide +kernel))) (fun C h => by cases h)
  obtain ⟨cJ, hcJ⟩ := wk_a (ty := .long) (hts _ (zat_mem (i := 7180) (by decide +kernel))) (fun C h => by cases h)
  obtain ⟨cL, hcL⟩ := wk_l (C := "WarmWall$Law") (hts _ (zat_mem (i := 1092) (by decide +kernel)))
  obtain ⟨F, hF⟩ : ∃ F : Int, va_Z "jdk/internal/util/Preconditions" "SIOOBE_FORMATTER" "Ljava/util/function/BiFunction;" (if F = 0 then .null else .ref F.toNat) (fun q : Nat => s.heap.size ≤ q) s s.heap := by
    rcases va_Zqof (hts _ (zat_mem (i := 2216) (by decide +kernel))) (hts _ (zat_mem (i := 1016) (by decide +kernel))) (hs (.isRef (.static "jdk/internal/util/Preconditions" "SIOOBE_FORMATTER" "Ljava/util/function/BiFunction;")) (by decide +kernel)) hA with h | ⟨t, h⟩
    · exact ⟨0, h⟩
    · by_cases ht : t = 0
      · subst ht
        refine ⟨-1, ?_⟩
        rw [if_neg (by decide)]
        exact h
      · refine ⟨(t : Int), ?_⟩
        rw [if_neg (by omega)]
        exact h
  have hk0 := wk_0 hts
  obtain ⟨scr, x1, x2, x3, x4, x5⟩ := hX
  refine ⟨((fun ci => (hk0 ci).choose, fun ci => (hk0 ci).choose_spec.choose), fun k => [cI, cZ, cJ, cL].getD k 0, s.heap.size, fun i => if i = -20 then b else if -10 ≤ i then [t0, t1, t2, t3, t4, t5, t6, t7, t8].getD (-2 - i).toNat 0 else if -13 ≤ i then [a0, a1, a2].getD (-11 - i).toNat 0 else [v0, v1, v2].getD (-31 - i).toNat 0, fun j => (xs j.toNat).toInt, (L : Int), F), rfl, rfl, rfl, ⟨fun ci r hr => (hk0 ci).choose_spec.choose_spec r hr, fun k q hq => ?_⟩, ⟨fun k hk => ?_, fun k hk => ?_, ⟨?_, by show (0 : Int) ≤ (L : Int); omega, by show (L : Int) ≤ 3072; omega, fun j => z32_I _⟩, fun k hk => ?_, ⟨hR0, hR1, hR2⟩, va_Zof (hts _ (zat_mem (i := 2200) (by decide +kernel))) (hts _ (zat_mem (i := 1014) (by decide +kernel))) (va_eqi (hs (.eq (.static "java/lang/String" "COMPACT_STRINGS" "Z") (.int 1)) (by decide +kernel))) hA, (by rw [zc_5]; exact hF), va_AO.of (hts _ (zat_mem (i := 1092) (by decide +kernel))), fun q hq => ?_, vx_Zqof (hts _ (zat_mem (i := 4230) (by decide +kernel))) (hts _ (zat_mem (i := 1019) (by decide +kernel))) (hs (.isRef (.static Bundle.tN "UNASSIGNED_STACK" Bundle.steD)) (by decide +kernel)) hA, vx_Zqof (hts _ (zat_mem (i := 4232) (by decide +kernel))) (hts _ (zat_mem (i := 1019) (by decide +kernel))) (hs (.isRef (.static Bundle.tN "SUPPRESSED_SENTINEL" Bundle.listD)) (by decide +kernel)) hA⟩, wx (A := fun q : Nat => s.heap.size ≤ q) hts hs hA⟩
  · have hz : k < 4 := (List.getElem?_eq_some_iff.mp hq).1
    rcases (show k = 0 ∨ k = 1 ∨ k = 2 ∨ k = 3 by omega) with rfl | rfl | rfl | rfl
    · cases hq; exact hcI
    · cases hq; exact hcZ
    · cases hq; exact hcJ
    · cases hq; exact hcL
  · rcases (show k = 0 ∨ k = 1 ∨ k = 2 ∨ k = 3 ∨ k = 4 ∨ k = 5 ∨ k = 6 ∨ k = 7 ∨ k = 8 by omega) with rfl | rfl | rfl | rfl | rfl | rfl | rfl | rfl | rfl
    · exact hT0
    · exact hT1
    · exact hT2
    · exact hT3
    · exact hT4
    · exact hT5
    · exact hT6
    · exact hT7
    · exact hT8
  · rcases (show k = 0 ∨ k = 1 ∨ k = 2 ∨ k = 3 ∨ k = 4 ∨ k = 5 ∨ k = 6 ∨ k = 7 ∨ k = 8 by omega) with rfl | rfl | rfl | rfl | rfl | rfl | rfl | rfl | rfl
    · exact hZ0
    · exact hZ1
    · exact hZ2
    · exact hZ3
    · exact hZ4
    · exact hZ5
    · exact hZ6
    · exact hZ7
    · exact hZ8
  · exact ⟨scr, x1, x2, x3, by show (L : Int).toNat ≤ _; omega, by rw [x4]; rfl, fun j hj => by
      have hj : j < (L : Int).toNat := hj
      rw [x5 j (by omega)]
      show some (Value.int (xs j)) = some (Value.int (Int32.ofInt ((xs (((j : Nat) : Int).toNat)).toInt)))
      rw [z32_of, Int.toNat_natCast], hA b hbl⟩
  · rcases (show k = 0 ∨ k = 1 ∨ k = 2 by omega) with rfl | rfl | rfl
    · exact hO0
    · exact hO1
    · exact hO2
  · have h6 : ∀ q ∈ zNst, (Cond.methodLinkNest q.1 q.2.1 q.2.2 "WarmWall") ∈ lw_tbl := by
      unfold zNst
      simp only [List.forall_mem_cons]
      exact ⟨zat_mem (i := 1035) (by decide +kernel), zat_mem (i := 1094) (by decide +kernel), zat_mem (i := 1136) (by decide +kernel), zat_mem (i := 1180) (by decide +kernel), zat_mem (i := 1206) (by decide +kernel), zat_mem (i := 1226) (by decide +kernel), fun _ h => absurd h List.not_mem_nil⟩
    exact va_Nw.of rfl (hts _ (h6 q hq))
