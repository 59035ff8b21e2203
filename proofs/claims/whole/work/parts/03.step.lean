/-! ONE INSTRUCTION, a goal for what comes behind it; the walk; what a place owes; what is checked of a method's table. -/
/-- division by a written number above 0 -/
def zpos (y : Int) (k : Prop) : Prop := match y with
  | .ofNat (_ + 1) => k
  | _ => False
def zrtn (t : Option FieldType) (x : Int) (k : Prop) : Prop := match t with
  | some .int => k
  | t => znr t x ∧ k
/-- a method's end: a constructor has made all its cells -/
def zend (h : zHdr) (n0 n : Nat) (k : Prop) : Prop := match hMc h with
  | 0 => k
  | _ + 1 => n = n0 + hMc h ∧ k
/-- a call of a member that the machine has a row for -/
def zprim (d : Nat) (r : List zV) (k : Prop) : Prop := zdp d fun _ => match Nat.ble (zcats r) 8 with
  | true => k
  | false => False
def zbudget (h : zHdr) (n0 n : Nat) (mc ms : Nat) : Prop := n + mc ≤ n0 + hMc h ∧ zSZ (n + mc) ≤ zSZ n0 + hMs h ∧ zSZ (n + mc) = zSZ n + ms
/-- a call: na values off the stack -/
def zcall1 (l : Launch) (G : zG) (md d : Nat) (h0 : zHdr) (n0 : Nat) (h : zHdr) (na : Nat) (st : List zV) (v : zH) (n : Nat) (k : List zV → zH → Nat → Prop) : Prop :=
  match hMc h with
  | 0 => zcall l G md d h na st v n k
  | _ + 1 => zbudget h0 n0 n (hMc h) (hMs h) ∧ zcall l G md d h na st v n k
def zgetf (G : zG) (md : Nat) (R : zRs) (v : zH) (o : Int) (k : Int → Nat → Prop) : Prop := match rC R with
  | 0 => zCL o = rA R ∧ k (v o (rB R)) 0
  | 1 => zCL o = rA R ∧ v o (rB R) ≠ -1000 ∧ k (v o (rB R)) 2
  | 2 => match md with
    | 1 => zCL o = rA R ∧ k (o + rK R) (zFT (rA R) (rB R))
    | _ => zCL o = rA R ∧ v o (rB R) ≠ -1000 ∧ k (v o (rB R)) (zFT (rA R) (rB R))
  | 3 => match md with
    | 1 => zCL o = rA R ∧ k (zKT (rB R) o) (zFT (rA R) (rB R))
    | _ => zCL o = rA R ∧ v o (rB R) ≠ -1000 ∧ k (v o (rB R)) (zFT (rA R) (rB R))
  | 5 => zCL o = 26 ∧ k (o - 20) 2
  | _ => zCL o = 26 ∧ k 0 0
def zpf (st : List zV) (k : Nat → Int → Int → List zV → Prop) : Prop := match st with
  | (t, x) :: (2, o) :: r => k t x o r
  | _ => False
def zputf (md : Nat) (R : zRs) (t : Nat) (x : Int) (k : Prop) : Prop := match Nat.beq t (zFT (rA R) (rB R)) with
  | false => False
  | true => match rC R with
    | 0 => k
    | 1 => (x = 0 ∨ x = 1) ∧ k
    | 2 => k
    | _ => match md with
      | 0 => k
      | _ => False
def znew (h : zHdr) (md n0 n : Nat) (c : Nat) (k : Prop) : Prop := match md with
  | 0 => zCL n = c ∧ n + 1 ≤ n0 + hMc h ∧ zSZ (n + 1) ≤ zSZ n0 + hMs h ∧ k
  | _ => False
def zstep (l : Launch) (G : zG) (md d : Nat) (h : zHdr) (code : List zIns) (n0 : Nat) (Q : Int → zH → Prop) (QX : Nat → zH → Prop) (go : zGo) (e : zIns) (cs : List zIns) (L st : List zV) (v : zH) (n : Nat) : Prop :=
  match iI e with
  | .iconst k => go cs L ((0, k) :: st) v n
  | .bipush k => go cs L ((0, k) :: st) v n
  | .sipush k => go cs L ((0, k) :: st) v n
  | .ldc _ => match rC (iR e) with
    | 0 => go cs L ((0, rK (iR e)) :: st) v n
    | _ => go cs L ((2, rK (iR e)) :: st) v n
  | .ldc_w _ => go cs L ((0, rK (iR e)) :: st) v n
  | .ldc2_w _ => go cs L ((1, rK (iR e)) :: st) v n
  | .lconst f => go cs L ((1, ((f : Nat) : Int)) :: st) v n
  | .iload i => zget L i 0 fun x => go cs L ((0, x) :: st) v n
  | .iload_n i => zget L i 0 fun x => go cs L ((0, x) :: st) v n
  | .lload i => zget L i 1 fun x => go cs L ((1, x) :: st) v n
  | .lload_n i => zget L i 1 fun x => go cs L ((1, x) :: st) v n
  | .aload i => zget L i 2 fun x => go cs L ((2, x) :: st) v n
  | .aload_n i => zget L i 2 fun x => go cs L ((2, x) :: st) v n
  | .istore i => z1 st fun x r => zput L i (0, x) fun L' => go cs L' r v n
  | .istore_n i => z1 st fun x r => zput L i (0, x) fun L' => go cs L' r v n
  | .astore i => z1r st fun x r => zput L i (2, x) fun L' => go cs L' r v n
  | .astore_n i => z1r st fun x r => zput L i (2, x) fun L' => go cs L' r v n
  | .lstore i => z1l st fun x r => zput2 L i (1, x) fun L' => go cs L' r v n
  | .lstore_n i => z1l st fun x r => zput2 L i (1, x) fun L' => go cs L' r v n
  | .iinc i k => zget L i 0 fun x => zI (x + k) ∧ zput L i (0, x + k) fun L' => go cs L' st v n
  | .iadd => z2 st fun x y r => zI (x + y) ∧ go cs L ((0, x + y) :: r) v n
  | .isub => z2 st fun x y r => zI (x - y) ∧ go cs L ((0, x - y) :: r) v n
  | .imul => z2 st fun x y r => zI (x * y) ∧ go cs L ((0, x * y) :: r) v n
  | .idiv => z2 st fun x y r => match rC (iR e) with
    | 1 => zpos y (go cs L ((0, x.tdiv y) :: r) v n)
    | _ => ¬ y = 0 ∧ zI (x.tdiv y) ∧ go cs L ((0, x.tdiv y) :: r) v n
  | .irem => z2 st fun x y r => match rC (iR e) with
    | 1 => zpos y (go cs L ((0, x.tmod y) :: r) v n)
    | _ => ¬ y = 0 ∧ zI (x.tdiv y) ∧ go cs L ((0, x.tmod y) :: r) v n
  | .ineg => z1 st fun x r => zI (-x) ∧ go cs L ((0, -x) :: r) v n
  | .iand => z2 st fun x y r => go cs L ((0, zand x y) :: r) v n
  | .ior => z2 st fun x y r => go cs L ((0, zor x y) :: r) v n
  | .ixor => z2 st fun x y r => go cs L ((0, zxor x y) :: r) v n
  | .ishl => z2 st fun x y r => go cs L ((0, zshl x y) :: r) v n
  | .ishr => z2 st fun x y r => go cs L ((0, zshr x y) :: r) v n
  | .iushr => z2 st fun x y r => go cs L ((0, zushr x y) :: r) v n
  | .i2c => z1 st fun x r => (0 ≤ x ∧ x ≤ 65535) ∧ go cs L ((0, x) :: r) v n
  | .i2l => z1 st fun x r => go cs L ((1, x) :: r) v n
  | .l2i => z1l st fun x r => zI x ∧ go cs L ((0, x) :: r) v n
  | .ladd => z2l st fun x y r => zLg (x + y) ∧ go cs L ((1, x + y) :: r) v n
  | .lsub => z2l st fun x y r => zLg (x - y) ∧ go cs L ((1, x - y) :: r) v n
  | .lmul => z2l st fun x y r => zLg (x * y) ∧ go cs L ((1, x * y) :: r) v n
  | .ldiv => z2l st fun x y r => ¬ y = 0 ∧ zLg (x.tdiv y) ∧ go cs L ((1, x.tdiv y) :: r) v n
  | .lcmp => z2l st fun x y r => go cs L ((0, zcmp x y) :: r) v n
  | .dup => match st with
    | (t, x) :: r => match t with
      | 1 => False
      | _ => go cs L ((t, x) :: (t, x) :: r) v n
    | _ => False
  | .dup2 => match st with
    | (0, x) :: (2, y) :: r => go cs L ((0, x) :: (2, y) :: (0, x) :: (2, y) :: r) v n
    | _ => False
  | .pop => match st with
    | (0, _) :: r => go cs L r v n
    | _ => False
  | .ifCond c _ => z1 st fun x r => zcnd c x 0 (go (code.drop (rA (iR e))) L r v n) (go cs L r v n)
  | .if_icmp c _ => z2 st fun x y r => zcnd c x y (go (code.drop (rA (iR e))) L r v n) (go cs L r v n)
  | .goto _ => go (code.drop (rA (iR e))) L st v n
  | .tableswitch _ lo _ _ => z1 st fun x r => (x < lo → go (code.drop (rA (iR e))) L r v n) ∧ zsw x (fun t => go (code.drop t) L r v n) (rA (iR e)) lo (rW (iR e))
  | .lookupswitch _ ps => z1 st fun x r => zlk x (fun t => go (code.drop t) L r v n) (rA (iR e)) ps.toList (rW (iR e))
  | .getfield _ => z1r st fun o r => zgetf G md (iR e) v o fun x t => go cs L ((t, x) :: r) v n
  | .putfield _ => zpf st fun t x o r => zCL o = rA (iR e) ∧ zputf md (iR e) t x (go cs L r (zupd v o (rB (iR e)) x) n)
  | .getstatic _ => match rC (iR e) with
    | 0 => go cs L ((2, rK (iR e)) :: st) v n
    | 1 => go cs L ((5, zgF G) :: st) v n
    | _ => go cs L ((0, rK (iR e)) :: st) v n
  | .iaload => zix st fun a j r => match rC (iR e) with
    | 0 => zCL a = 20 ∧ (0 ≤ j ∧ j < zLN a) ∧ go cs L ((0, v a j) :: r) v n
    | 1 => zCL a = 25 ∧ (0 ≤ j ∧ j < zLN a) ∧ go cs L ((0, zSA a j) :: r) v n
    | _ => a = -20 ∧ (0 ≤ j ∧ j < zgL G) ∧ go cs L ((0, zgS G j) :: r) v n
  | .baload => zix st fun a j r => match rC (iR e) with
    | 0 => zCL a = 21 ∧ (0 ≤ j ∧ j < zLN a) ∧ go cs L ((0, v a j) :: r) v n
    | _ => zCL a = 28 ∧ (0 ≤ j ∧ j < zLN a) ∧ go cs L ((0, zLA a j) :: r) v n
  | .laload => zix st fun a j r => zCL a = 22 ∧ (0 ≤ j ∧ j < zLN a) ∧ go cs L ((1, v a j) :: r) v n
  | .aaload => zix st fun a j r => zCL a = 23 ∧ (0 ≤ j ∧ j < zLN a) ∧ v a j ≠ -1000 ∧ go cs L ((2, v a j) :: r) v n
  | .iastore => zixv 0 st fun a j x r => zCL a = 20 ∧ (0 ≤ j ∧ j < zLN a) ∧ go cs L r (zupd v a j x) n
  | .bastore => zixv 0 st fun a j x r => zCL a = 21 ∧ (0 ≤ j ∧ j < zLN a) ∧ (x = 0 ∨ x = 1) ∧ go cs L r (zupd v a j x) n
  | .lastore => zixv 1 st fun a j x r => zCL a = 22 ∧ (0 ≤ j ∧ j < zLN a) ∧ go cs L r (zupd v a j x) n
  | .aastore => zixv 2 st fun a j x r => zCL a = 23 ∧ (0 ≤ j ∧ j < zLN a) ∧ zCL x = 2 ∧ go cs L r (zupd v a j x) n
  | .arraylength => z1r st fun a r => match rC (iR e) with
    | 0 => (zCL a = 20 ∨ zCL a = 21) ∧ go cs L ((0, zLN a) :: r) v n
    | 1 => zCL a = 25 ∧ go cs L ((0, zLN a) :: r) v n
    | 2 => zCL a = 28 ∧ go cs L ((0, zLN a) :: r) v n
    | 3 => zCL a = 23 ∧ go cs L ((0, zLN a) :: r) v n
    | _ => a = -20 ∧ go cs L ((0, zgL G) :: r) v n
  | .new _ => match rC (iR e) with
    | 9 => st = [] ∧ n = n0 ∧ QX (iPc e) v
    | _ => znew h md n0 n (rA (iR e)) (go cs L ((2, (n : Int)) :: st) (zborn v n) (n + 1))
  | .newarray _ => z1 st fun x r => znew h md n0 n (rA (iR e)) (x = zLN n ∧ go cs L ((2, (n : Int)) :: r) (zborn v n) (n + 1))
  | .anewarray _ => z1 st fun x r => znew h md n0 n 23 (x = zLN n ∧ go cs L ((2, (n : Int)) :: r) (zborn v n) (n + 1))
  | .invokestatic _ => match rA (iR e) with
    | 6 => False
    | 7 => match st with
      | (0, c) :: (0, dp) :: (2, b) :: (0, sp) :: (2, a) :: r => (zCL a = 20 ∧ zCL b = 20) ∧ (0 ≤ sp ∧ 0 ≤ dp ∧ 0 ≤ c ∧ sp + c ≤ zLN a ∧ dp + c ≤ zLN b) ∧ zdp d fun _ => match Nat.ble (zcats r) 8 with
        | true => go cs L r (zcp v a sp b dp c) n
        | false => False
      | _ => False
    | 10 => z2 st fun x y r => zprim d r (go cs L ((0, max x y) :: r) v n)
    | 11 => z2 st fun x y r => zprim d r (go cs L ((0, min x y) :: r) v n)
    | 12 => z1 st fun x r => zI (-x) ∧ zprim d r (go cs L ((0, (x.natAbs : Int)) :: r) v n)
    | 13 => z2l st fun x y r => zprim d r (go cs L ((1, max x y) :: r) v n)
    | 14 => z2l st fun x y r => zprim d r (go cs L ((1, min x y) :: r) v n)
    | _ => zcall1 l G md d h n0 (rH (iR e)) (hN (rH (iR e))) st v n fun r v' n' => go cs L r v' n'
  | .invokevirtual _ => zrc (rB (iR e)) (st.drop (hN (rH (iR e)))) (zcall1 l G md d h n0 (rH (iR e)) (hN (rH (iR e)) + 1) st v n fun r v' n' => go cs L r v' n')
  | .invokespecial _ => match rA (iR e) with
    | 5 => z1r st fun _ r => zdp d fun _ => match Nat.ble (zcats r) 8 with
      | true => go cs L r v n
      | false => False
    | _ => zrecv (st.drop (hN (rH (iR e)))) fun _ => zcall1 l G md d h n0 (rH (iR e)) (hN (rH (iR e)) + 1) st v n fun r v' n' => go cs L r v' n'
  | .ireturn => match st with
    | [(0, x)] => zrtn (hR h) x (Q x v)
    | _ => False
  | .lreturn => match st with
    | [(1, x)] => Q x v
    | _ => False
  | .areturn => match st with
    | [(2, x)] => Q x v
    | _ => False
  | .return_ => match st with
    | [] => zend h n0 n (Q 0 v)
    | _ => False
  | _ => False
def zx (l : Launch) (G : zG) (md d : Nat) (h : zHdr) (code : List zIns) (n0 : Nat) (Q : Int → zH → Prop) (QX : Nat → zH → Prop) (K : Nat → List zV → List zV → zH → Nat → Prop) : Nat → zGo
  | 0 => fun _ _ _ _ _ => False
  | f + 1 => fun cs L st v n => match cs with
    | [] => False
    | e :: cs' => zstep l G md d h code n0 Q QX (zcut K (zx l G md d h code n0 Q QX K f)) e cs' L st v n
def zRi (t : Nat) : Instr := match t with
  | 0 => .ireturn
  | 1 => .lreturn
  | 2 => .areturn
  | 4 => .ireturn
  | _ => .return_
def zHR (l : Launch) (G : zG) (md : Nat) (h : zHdr) (n0 : Nat) (Q : Int → zH → Prop) (p : Program) (e : Env) (R : Room) (s : State) (m : MethodId) (args : Array Value) (below : List Frame) (meth : Method) (c : Code) (QW : State → Prop) : Prop :=
  ∀ (H : Heap) (locs : List Loc) (ls : Array Slot) (pc n : Nat) (r : Int) (v : zH), Q r v → zP G md v n H → va_S (zA G) s.heap H locs → zRr n (hT h) r → n = n0 + hMc h → decode (hB h) pc = .ok (zRi (hT h), 1) → (hT h = 0 ∨ hT h = 4 → znr (hR h) r) → W p l e R s m args below meth c H locs (hMc h) (hMs h) QW (F0 m pc ls ((zpsh (hT h) r []).map (zc G)))
def zHX (l : Launch) (G : zG) (md : Nat) (h : zHdr) (n0 : Nat) (QX : Nat → zH → Prop) (p : Program) (e : Env) (R : Room) (s : State) (m : MethodId) (args : Array Value) (below : List Frame) (meth : Method) (c : Code) (QW : State → Prop) : Prop :=
  ∀ (H : Heap) (locs : List Loc) (ls : Array Slot) (pc : Nat) (v : zH), QX pc v → zP G md v n0 H → va_S (zA G) s.heap H locs → ls.size = hL h → W p l e R s m args below meth c H locs 0 0 QW (F0 m pc ls [])
def zCtx (l : Launch) (G : zG) (md d : Nat) (h : zHdr) (n0 : Nat) (Q : Int → zH → Prop) (QX : Nat → zH → Prop) (p : Program) (e : Env) (R : Room) (s : State) (m : MethodId) (args : Array Value) (below : List Frame) (meth : Method) (c : Code) (QW : State → Prop) : Prop :=
  (p.tables.exec = Jvm.exec ∧ c.code = hB h ∧ c.maxLocals = hL h ∧ s.vm.findClass (hO h) = some m.cls ∧ ∀ w ∈ zws, w.before args s = true) ∧ (zKt G s ∧ zSt G s s.heap ∧ zgB G ≤ s.heap.size ∧ (md = 0 → s.heap.size = zgB G + n0)) ∧ (d ≤ R.frames ∧ 60 * d ≤ R.locals ∧ hMc h ≤ R.cells ∧ hMs h ≤ R.slots) ∧ (hK h = true → meth.name = "<init>") ∧ zHR l G md h n0 Q p e R s m args below meth c QW ∧ zHX l G md h n0 QX p e R s m args below meth c QW
def zpc (code : List zIns) (p : Nat) : Nat := match code[p]? with
  | some e => iPc e
  | none => 0
/-- what a pc of a method owes: from there, on every machine, the method comes to its end, and Q holds of answer and cells -/
def zJp (l : Launch) (G : zG) (md d : Nat) (h : zHdr) (n0 : Nat) (Q : Int → zH → Prop) (QX : Nat → zH → Prop) (pc : Nat) (L st : List zV) (v : zH) (n : Nat) : Prop :=
  ∀ (p : Program) (e : Env) (R : Room) (s : State) (m : MethodId) (args : Array Value) (below : List Frame) (meth : Method) (c : Code) (QW : State → Prop), zCtx l G md d h n0 Q QX p e R s m args below meth c QW →
  ∀ (H : Heap) (locs : List Loc) (ls : Array Slot), zP G md v n H → va_S (zA G) s.heap H locs → zLs G n ls (hL h) L → zStk n st → n0 ≤ n → n ≤ n0 + hMc h → zSZ n ≤ zSZ n0 + hMs h →
  W p l e R s m args below meth c H locs (n - n0) (zSZ n - zSZ n0) QW (F0 m pc ls (st.map (zc G)))
/-- a place in a method's code -/
def zJ (l : Launch) (G : zG) (md d : Nat) (h : zHdr) (code : List zIns) (n0 : Nat) (Q : Int → zH → Prop) (QX : Nat → zH → Prop) (pos : Nat) (L st : List zV) (v : zH) (n : Nat) : Prop :=
  zJp l G md d h n0 Q QX (zpc code pos) L st v n
-- the checks
def zchunk (k : Nat) : List Jvm.Cond := match k with
  | 0 => k2_sels lw_privs
  | 1 => tables_1_1
  | 2 => tables_1_2
  | 3 => tables_1_3
  | 4 => tables_1_4
  | 5 => tables_1_5
  | 6 => tables_1_6
  | _ => tables_1_7
def zat (i : Nat) : Option Jvm.Cond := (zchunk (i / 1000))[i % 1000]?
def zwd (i : Nat) (w : Cond) : Bool := decide (zat i = some w) && goodWord w
def zcr (ci : Nat) : vw_C := zcl.getD ci ("", fun _ => ("", "", "", false), 0)
def zfld (own : String) (idx ci k : Nat) (ws : List Nat) : Bool := decide (ci < 12) && decide (k < (zcr ci).2.2) && (match ws with
  | i :: is => match zat i with
    | some (.fieldLink o j ref nm ds) => decide (o = own) && decide (j = idx) && decide (nm = ((zcr ci).2.1 k).2.1) && decide (ds = ((zcr ci).2.1 k).2.2.1) && goodWord (.fieldLink o j ref nm ds) && (decide (ref = ((zcr ci).2.1 k).1) || (match is with
      | i2 :: _ => zwd i2 (.sameField ref ((zcr ci).2.1 k).1 nm ds)
      | [] => false))
    | _ => false
  | [] => false)
/-- a field's kind: 0 a number, 4 a truth, 2 a reference -/
def zfk (ci k : Nat) : Nat := match parseFieldDescriptor ((zcr ci).2.1 k).2.2.1 with
  | some .int => 0
  | some .boolean => 4
  | some (.object _) => 2
  | some (.array _) => 2
  | _ => 9
def zfin (ci k : Nat) : Bool := ((zcr ci).2.1 k).2.2.2
def zmok (hc : zHdr) : Bool := decide ((hY hc).cls ≠ "java/lang/invoke/MethodHandle") && decide ((hY hc).cls ≠ "java/lang/invoke/VarHandle") && decide ((parseMethodDescriptor (hY hc).desc).map (fun d => d.parameters.length) = some (hN hc)) && Nat.ble (hL hc) 41 && (Nat.blt 0 (hMc hc) || Nat.beq (hMs hc) 0) && Nat.ble (hT hc) 4
def zcode (i : Nat) (hc : zHdr) : Bool := zwd i (.code (hY hc) (hB hc) (hL hc) (hR hc))
/-- the class of a receiver, by its number -/
def zrcn (c : Nat) : String := if c = 26 then "java/lang/String" else (zcr c).1
def zinv (own : String) (idx : Nat) (R : zRs) : Bool := (Nat.blt 4 (rA R) || zmok (rH R)) && (match rA R, rW R with
  | 0, [i1, i2, i3, i4, i5] => zwd i1 (.methodLink own idx (hY (rH R))) && zwd i2 (.instanceMethod (hY (rH R))) && zwd i3 (.selects (zrcn (rB R)) (hY (rH R)) (hY (rH R))) && zwd i4 (.initialized (zrcn (rB R))) && zcode i5 (rH R) && decide ((hY (rH R)).cls = zrcn (rB R)) && (decide (rB R < 12) || decide (rB R = 26))
  | 1, [i1, i2, i3, i4, i5, i6] => (match zat i1 with
    | some (.methodLink o j x) => decide (o = own) && decide (j = idx) && goodWord (.methodLink o j x) && zwd i2 (.sameMethod x.cls (hY (rH R)).cls x.name x.desc) && zwd i3 (.selects (zrcn (rB R)) x (hY (rH R))) && decide (hY (rH R) = ⟨(hY (rH R)).cls, x.name, x.desc⟩) && decide ((parseMethodDescriptor x.desc).map (fun d => d.parameters.length) = some (hN (rH R)))
    | _ => false) && zwd i4 (.instanceMethod (hY (rH R))) && zwd i5 (.initialized (hY (rH R)).cls) && zcode i6 (rH R) && decide (rB R < 12)
  | 2, [i1, i2, i3, i4] => zwd i1 (.methodLink own idx (hY (rH R))) && zwd i2 (.static (hY (rH R))) && zwd i3 (.initialized (hY (rH R)).cls) && zcode i4 (rH R)
  | 3, [i1, i2, i3, i4] => zwd i1 (.methodLink own idx (hY (rH R))) && zwd i2 (.initialized (hY (rH R)).cls) && zwd i3 (.instanceMethod (hY (rH R))) && zcode i4 (rH R) && decide ((hY (rH R)).name = "<init>") && decide (hR (rH R) = none)
  | 4, [i2, i3, i4] => decide ((own, idx, hY (rH R)) ∈ zNst) && zwd i2 (.initialized (hY (rH R)).cls) && zwd i3 (.instanceMethod (hY (rH R))) && zcode i4 (rH R) && decide ((hY (rH R)).name = "<init>") && decide (hR (rH R) = none)
  | 5, [i1, i2, i3] => zwd i1 (.methodLink own idx Lib.objectInit) && zwd i2 (.instanceMethod Lib.objectInit) && zwd i3 (.code Lib.objectInit ⟨#[0xb1]⟩ 1 none)
  | 6, _ => true
  | 7, [i1, i2, i3, i4] => zwd i1 (.methodLink own idx arraycopyName) && zwd i2 (.native arraycopyName) && zwd i3 (.static arraycopyName) && zwd i4 (.initialized "java/lang/System")
  | 10, [i1, i2, i3, i4] => zwd i1 (.methodLink own idx Lib.Math.max.name) && zwd i2 (.static Lib.Math.max.name) && zwd i3 (.initialized "java/lang/Math") && zwd i4 (.code Lib.Math.max.name Lib.Math.max.code 2 (some .int))
  | 11, [i1, i2, i3, i4] => zwd i1 (.methodLink own idx Lib.Math.min.name) && zwd i2 (.static Lib.Math.min.name) && zwd i3 (.initialized "java/lang/Math") && zwd i4 (.code Lib.Math.min.name Lib.Math.min.code 2 (some .int))
  | 12, [i1, i2, i3, i4] => zwd i1 (.methodLink own idx Lib.Math.abs.name) && zwd i2 (.static Lib.Math.abs.name) && zwd i3 (.initialized "java/lang/Math") && zwd i4 (.code Lib.Math.abs.name Lib.Math.abs.code 1 (some .int))
  | 13, [i1, i2, i3, i4] => zwd i1 (.methodLink own idx Lib.MathLoose.max_long.x) && zwd i2 (.static Lib.MathLoose.max_long.x) && zwd i3 (.initialized "java/lang/Math") && zwd i4 (.code Lib.MathLoose.max_long.x Lib.MathLoose.max_long.code 4 (some .long))
  | 14, [i1, i2, i3, i4] => zwd i1 (.methodLink own idx Lib.MathLoose.min_long.x) && zwd i2 (.static Lib.MathLoose.min_long.x) && zwd i3 (.initialized "java/lang/Math") && zwd i4 (.code Lib.MathLoose.min_long.x Lib.MathLoose.min_long.code 4 (some .long))
  | _, _ => false)
/-- the next instruction's pc -/
def znx (code : List zIns) (p : Nat) (pc : Nat) : Bool := match code[p]? with
  | some e => Nat.beq (iPc e) pc
  | none => false
def ztg (code : List zIns) (t : Nat) (pc : Nat) (off : Int) : Bool := match code[t]? with
  | some e => decide ((pc : Int) + off = (iPc e : Int))
  | none => false
def zci (h : zHdr) (code : List zIns) (e : zIns) : Bool := match iI e with
  | .iconst k => decide (-2147483648 ≤ k) && decide (k ≤ 2147483647)
  | .bipush k => decide (-128 ≤ k) && decide (k ≤ 127)
  | .sipush k => decide (-32768 ≤ k) && decide (k ≤ 32767)
  | .ldc i => match rC (iR e) with
    | 0 => (match rW (iR e) with
      | [w] => zwd w (.constant (hO h) i (Int32.ofInt (rK (iR e)))) && decide (-2147483648 ≤ rK (iR e)) && decide (rK (iR e) ≤ 2147483647)
      | _ => false)
    | _ => decide (hO h = "WarmWall$Wall") && (decide (i = 11) && decide (rK (iR e) = -11) || decide (i = 32) && decide (rK (iR e) = -12) || decide (i = 46) && decide (rK (iR e) = -13))
  | .ldc_w i => (match rW (iR e) with
      | [w] => zwd w (.constant (hO h) i (Int32.ofInt (rK (iR e)))) && decide (-2147483648 ≤ rK (iR e)) && decide (rK (iR e) ≤ 2147483647)
      | _ => false)
  | .ldc2_w i => (match rW (iR e) with
      | [w] => zwd w (.constantLong (hO h) i (Int64.ofInt (rK (iR e)))) && decide (-2147483648 ≤ rK (iR e)) && decide (rK (iR e) ≤ 2147483647)
      | _ => false)
  | .ifCond _ off => ztg code (rA (iR e)) (iPc e) off
  | .if_icmp _ off => ztg code (rA (iR e)) (iPc e) off
  | .goto off => ztg code (rA (iR e)) (iPc e) off
  | .tableswitch dflt lo hi offs => ztg code (rA (iR e)) (iPc e) dflt && decide (hi - lo + 1 = ((rW (iR e)).length : Int)) && decide (offs.toList.length = (rW (iR e)).length) && (List.zip offs.toList (rW (iR e))).all (fun q => ztg code q.2 (iPc e) q.1) && decide (-2147483648 ≤ lo) && decide (hi ≤ 2147483647)
  | .lookupswitch dflt ps => ztg code (rA (iR e)) (iPc e) dflt && decide (ps.toList.length = (rW (iR e)).length) && (List.zip ps.toList (rW (iR e))).all (fun q => ztg code q.2 (iPc e) q.1.2) && (ps.toList.zip (ps.toList.drop 1)).all (fun (a, next) => a.1 < next.1)
  | .getfield i => match rC (iR e) with
    | 0 => zfld (hO h) i (rA (iR e)) (rB (iR e)) (rW (iR e)) && Nat.beq (zFT (rA (iR e)) (rB (iR e))) 0 && Nat.beq (zFn (rA (iR e)) (rB (iR e))).1 0
    | 1 => zfld (hO h) i (rA (iR e)) (rB (iR e)) (rW (iR e)) && Nat.beq (zFT (rA (iR e)) (rB (iR e))) 2 && Nat.beq (zFn (rA (iR e)) (rB (iR e))).1 0
    | 2 => zfld (hO h) i (rA (iR e)) (rB (iR e)) (rW (iR e)) && Nat.beq (zFn (rA (iR e)) (rB (iR e))).1 1 && decide ((zFn (rA (iR e)) (rB (iR e))).2 = rK (iR e))
    | 3 => zfld (hO h) i (rA (iR e)) (rB (iR e)) (rW (iR e)) && Nat.beq (zFn (rA (iR e)) (rB (iR e))).1 2
    | 5 => (match rW (iR e) with
      | [w] => zwd w (.fieldLink (hO h) i "java/lang/String" "value" "[B")
      | _ => false)
    | _ => (match rW (iR e) with
      | [w] => zwd w (.fieldLink (hO h) i "java/lang/String" "coder" "B")
      | _ => false)
  | .putfield i => zfld (hO h) i (rA (iR e)) (rB (iR e)) (rW (iR e)) && (match rC (iR e) with
    | 0 => Nat.beq (zfk (rA (iR e)) (rB (iR e))) 0 && Nat.beq (zFT (rA (iR e)) (rB (iR e))) 0 && !(zfin (rA (iR e)) (rB (iR e)))
    | 1 => Nat.beq (zfk (rA (iR e)) (rB (iR e))) 4 && Nat.beq (zFT (rA (iR e)) (rB (iR e))) 0 && !(zfin (rA (iR e)) (rB (iR e)))
    | 2 => Nat.beq (zfk (rA (iR e)) (rB (iR e))) 2 && Nat.beq (zFT (rA (iR e)) (rB (iR e))) 2 && !(zfin (rA (iR e)) (rB (iR e)))
    | 3 => Nat.beq (zfk (rA (iR e)) (rB (iR e))) 0 && Nat.beq (zFT (rA (iR e)) (rB (iR e))) 0 && zfin (rA (iR e)) (rB (iR e)) && hK h && decide (((zcr (rA (iR e))).2.1 (rB (iR e))).1 = hO h)
    | _ => Nat.beq (zfk (rA (iR e)) (rB (iR e))) 2 && Nat.beq (zFT (rA (iR e)) (rB (iR e))) 2 && zfin (rA (iR e)) (rB (iR e)) && hK h && decide (((zcr (rA (iR e))).2.1 (rB (iR e))).1 = hO h))
  | .getstatic i => (match rW (iR e) with
    | [w] => (match rC (iR e) with
      | 0 => decide (rB (iR e) < 9) && decide (rK (iR e) = -2 - (rB (iR e) : Int)) && zwd w (.fieldLink (hO h) i "WarmWall$Wall" (zSNm.getD (rB (iR e)) "") "[I")
      | 1 => zwd w (.fieldLink (hO h) i "jdk/internal/util/Preconditions" "SIOOBE_FORMATTER" "Ljava/util/function/BiFunction;")
      | _ => decide (rK (iR e) = 1) && zwd w (.fieldLink (hO h) i "java/lang/String" "COMPACT_STRINGS" "Z"))
    | _ => false)
  | .new i => match rC (iR e) with
    | 9 => true
    | _ => (match rW (iR e) with
      | [i1, i2, i3] => decide (rA (iR e) < 12) && zwd i1 (.classLink (hO h) i (zcr (rA (iR e))).1) && zwd i2 (.instantiable (zcr (rA (iR e))).1 (zcr (rA (iR e))).2.2) && zwd i3 (.initialized (zcr (rA (iR e))).1)
      | _ => false)
  | .newarray t => (match rW (iR e), rA (iR e), t with
    | [i1], 20, .int => zwd i1 (.arrayClass .int)
    | [i1], 21, .boolean => zwd i1 (.arrayClass .boolean)
    | [i1], 22, .long => zwd i1 (.arrayClass .long)
    | _, _, _ => false)
  | .anewarray i => (match rW (iR e) with
    | [i1] => zwd i1 (.classLink (hO h) i "WarmWall$Law")
    | _ => false)
  | .invokestatic i => (Nat.beq (rA (iR e)) 2 || Nat.blt 5 (rA (iR e))) && zinv (hO h) i (iR e)
  | .invokevirtual i => (Nat.beq (rA (iR e)) 0 || Nat.beq (rA (iR e)) 1) && zinv (hO h) i (iR e)
  | .invokespecial i => (Nat.beq (rA (iR e)) 3 || Nat.beq (rA (iR e)) 4 || Nat.beq (rA (iR e)) 5) && zinv (hO h) i (iR e)
  | .ireturn => (Nat.beq (hT h) 0 || Nat.beq (hT h) 4) && Nat.beq (hMc h) 0
  | .lreturn => Nat.beq (hT h) 1 && Nat.beq (hMc h) 0
  | .areturn => Nat.beq (hT h) 2 && Nat.beq (hMc h) 0
  | .return_ => Nat.beq (hT h) 3
  | _ => true
/-- does control go on to the next instruction -/
def zfall (i : Instr) : Bool := match i with
  | .goto _ => false
  | .tableswitch .. => false
  | .lookupswitch .. => false
  | .ireturn => false
  | .lreturn => false
  | .areturn => false
  | .return_ => false
  | _ => true
def zlen (i : Instr) : Nat := match i with
  | .bipush _ | .iload _ | .lload _ | .aload _ | .istore _ | .lstore _ | .astore _ | .ldc _ | .newarray _ => 2
  | .sipush _ | .ldc_w _ | .ldc2_w _ | .iinc .. | .ifCond .. | .if_icmp .. | .goto _ | .getfield _ | .putfield _ | .getstatic _ | .new _ | .anewarray _ | .invokestatic _ | .invokevirtual _ | .invokespecial _ => 3
  | .tableswitch .. => 0
  | .lookupswitch .. => 0
  | _ => 1
/-- the making of an exception: what comes behind is not walked -/
def zexc (i : Instr) (R : zRs) : Bool := match i with
  | .new _ => Nat.beq (rC R) 9
  | _ => false
def zce (h : zHdr) (code : List zIns) (p : Nat) (e : zIns) : Bool := Nat.beq (iP e) p && decide (decode (hB h) (iPc e) = .ok (iI e, iLen e)) && (Nat.beq (zlen (iI e)) 0 || Nat.beq (iLen e) (zlen (iI e))) && (!(zfall (iI e)) || znx code (p + 1) (iPc e + iLen e) || zexc (iI e) (iR e)) && zci h code e
def zck (h : zHdr) (code : List zIns) : Bool := (List.range code.length).all (fun p => match code[p]? with
  | some e => zce h code p e
  | none => true)
