/-! THE ABSTRACT MACHINE: whole numbers for values and cell numbers for references; a place in a method's code goes to a goal without any machine in it. -/
/-- a value: 0 a number, 1 a long, 2 a reference (a cell's number; below 0 what was there before), 3 nothing known, 5 an address as it is (0 null) -/
abbrev zV : Type := Nat × Int
abbrev zH : Type := Int → Int → Int
abbrev zG : Type := va_G × (Nat → ClassId) × Nat × (Int → Nat) × (Int → Int) × Int × Int
def zgD (G : zG) : va_G := G.1
def zgT (G : zG) : Nat → ClassId := G.2.1
def zgB (G : zG) : Nat := G.2.2.1
def zgA (G : zG) : Int → Nat := G.2.2.2.1
def zgS (G : zG) : Int → Int := G.2.2.2.2.1
def zgL (G : zG) : Int := G.2.2.2.2.2.1
def zgF (G : zG) : Int := G.2.2.2.2.2.2
/-- a method's head: its class, name, code, locals, type, arguments beside the receiver, tag of the answer (3 none), cells and slots that it makes, whether it is a constructor -/
abbrev zHdr : Type := String × MethodName × ByteArray × Nat × Option FieldType × Nat × Nat × Nat × Nat × Bool
def hO (h : zHdr) : String := h.1
def hY (h : zHdr) : MethodName := h.2.1
def hB (h : zHdr) : ByteArray := h.2.2.1
def hL (h : zHdr) : Nat := h.2.2.2.1
def hR (h : zHdr) : Option FieldType := h.2.2.2.2.1
def hN (h : zHdr) : Nat := h.2.2.2.2.2.1
def hT (h : zHdr) : Nat := h.2.2.2.2.2.2.1
def hMc (h : zHdr) : Nat := h.2.2.2.2.2.2.2.1
def hMs (h : zHdr) : Nat := h.2.2.2.2.2.2.2.2.1
def hK (h : zHdr) : Bool := h.2.2.2.2.2.2.2.2.2
/-- what an instruction means beyond its bytes: a number, three small ones, places (targets, or words of the tables), the method that is called -/
abbrev zRs : Type := Int × Nat × Nat × Nat × List Nat × zHdr
def rK (r : zRs) : Int := r.1
def rA (r : zRs) : Nat := r.2.1
def rB (r : zRs) : Nat := r.2.2.1
def rC (r : zRs) : Nat := r.2.2.2.1
def rW (r : zRs) : List Nat := r.2.2.2.2.1
def rH (r : zRs) : zHdr := r.2.2.2.2.2
/-- an instruction: its place, its pc, which locals live if it is a cut point, what it is, its length, what it means -/
abbrev zIns : Type := Nat × Nat × Option (List Bool) × Instr × Nat × zRs
def iP (e : zIns) : Nat := e.1
def iPc (e : zIns) : Nat := e.2.1
def iCut (e : zIns) : Option (List Bool) := e.2.2.1
def iI (e : zIns) : Instr := e.2.2.2.1
def iLen (e : zIns) : Nat := e.2.2.2.2.1
def iR (e : zIns) : zRs := e.2.2.2.2.2
def zh0 : zHdr := ("", ⟨"", "", ""⟩, ⟨#[]⟩, 0, none, 0, 0, 0, 0, false)
def zr0 : zRs := (0, 0, 0, 0, [], zh0)
def zrT (t : Nat) : zRs := (0, t, 0, 0, [], zh0)
def zrF (a b c : Nat) (w : List Nat) : zRs := (0, a, b, c, w, zh0)
def zrK (k : Int) (a b c : Nat) (w : List Nat) : zRs := (k, a, b, c, w, zh0)
def zrM (kind cls : Nat) (w : List Nat) (h : zHdr) : zRs := (0, kind, cls, 0, w, h)
-- ranges
def zI (x : Int) : Prop := -2147483648 ≤ x ∧ x ≤ 2147483647
def zLg (x : Int) : Prop := -9223372036854775808 ≤ x ∧ x ≤ 9223372036854775807
-- to the machine
def zad (G : zG) (x : Int) : Nat := if x < 0 then zgA G x else zgB G + x.toNat
def zc (G : zG) (q : zV) : Value := match q.1 with
  | 0 => .int (Int32.ofInt q.2)
  | 1 => .long (Int64.ofInt q.2)
  | 5 => if q.2 = 0 then .null else .ref q.2.toNat
  | _ => if q.2 = -1000 then .null else .ref (zad G q.2)
/-- what a field holds: a final one, once all is made (md 1), what the table says -/
def zfv (md : Nat) (v : zH) (i : Int) (k : Nat) : Int := if md = 1 ∧ (zFn (zCL i) k).1 ≠ 0 then zFK i k else v i k
def zE (G : zG) (md : Nat) (v : zH) (i : Nat) : va_E :=
  if zCL i = 20 then .inl (zgT G 0, (zLN i).toNat, .inl (fun j => Int32.ofInt (v i j)))
  else if zCL i = 21 then .inl (zgT G 1, (zLN i).toNat, .inl (fun j => Int32.ofInt (v i j)))
  else if zCL i = 22 then .inl (zgT G 2, (zLN i).toNat, .inr (.inl (fun j => Int64.ofInt (v i j))))
  else if zCL i = 23 then .inl (zgT G 3, (zLN i).toNat, .inr (.inr (.inr (.inr (fun j => if v i j = -1000 then none else some (zad G (v i j)))))))
  else .inr (zCL i, (List.range (zNF (zCL i))).map (fun k => zc G (zFT (zCL i) k, zfv md v i k)))
def zW (G : zG) (md : Nat) (v : zH) (n : Nat) : va_W := (List.range n).map (fun i => (zgB G + i, zE G md v i))
def zTys (G : zG) : List (ClassId × FieldType) := [(zgT G 0, .int), (zgT G 1, .boolean), (zgT G 2, .long), (zgT G 3, .object "WarmWall$Law")]
def zTg (i : Int) (k : Nat) : Nat := if zCL i = 20 ∨ zCL i = 21 then 0 else if zCL i = 22 then 1 else if zCL i = 23 then 2 else zFT (zCL i) k
def zRg (n t : Nat) (x : Int) : Prop := match t with
  | 0 => zI x
  | 1 => zLg x
  | 2 => -40 ≤ x ∧ x < n
  | _ => True
def zRn (n t : Nat) (x : Int) : Prop := (t = 2 ∧ x = -1000) ∨ zRg n t x
def zOk (md : Nat) (v : zH) (n : Nat) : Prop := ∀ i : Nat, i < n → ∀ k : Nat, zRn n (zTg i k) (zfv md v i k)
/-- the heap holds the picture -/
def zP (G : zG) (md : Nat) (v : zH) (n : Nat) (H : Heap) : Prop := va_P (zgD G) zcl (zW G md v n) H ∧ zgB G + n ≤ H.size ∧ zOk md v n
def zKt (G : zG) (U : State) : Prop := va_K (zgD G) zcl (zTys G) U
def zA (G : zG) : Nat → Prop := fun q => zgB G ≤ q
/-- constructors of classes in the nest, by class file and place -/
def zNst : List (String × Nat × MethodName) := [("WarmWall", 9, ⟨"WarmWall$Tape", "<init>", "()V"⟩), ("WarmWall$Sky", 28, ⟨"WarmWall$Law", "<init>", "()V"⟩), ("WarmWall", 41, ⟨"WarmWall$Course", "<init>", "()V"⟩), ("WarmWall", 51, ⟨"WarmWall$Past", "<init>", "()V"⟩), ("WarmWall", 58, ⟨"WarmWall$Touches", "<init>", "()V"⟩), ("WarmWall", 72, ⟨"WarmWall$Wall", "<init>", "()V"⟩)]
/-- what was there before, and stays: Wall's static rows, the three texts, the script, two statics of the JDK's -/
def zSt (G : zG) (U : State) (H : Heap) : Prop :=
  (∀ k : Nat, k < 9 → va_T .int (zgA G (-2 - (k : Int))) (zSTab.getD k []).length (fun j => .int (Int32.ofInt (zSA (-2 - (k : Int)) j))) (zA G) U H) ∧
  (∀ k : Nat, k < 9 → va_Z "WarmWall$Wall" (zSNm.getD k "") "[I" (.ref (zgA G (-2 - (k : Int)))) (zA G) U H) ∧
  (va_T .int (zgA G (-20)) (zgL G).toNat (fun j => .int (Int32.ofInt (zgS G j))) (zA G) U H ∧ 0 ≤ zgL G ∧ zgL G ≤ 3072 ∧ ∀ j : Nat, zI (zgS G j)) ∧
  (∀ k : Nat, k < 3 → va_O "java/lang/String" (zgA G (-11 - (k : Int))) (zA G) U H ∧ va_OF "java/lang/String" "coder" "B" (.int 0) (zgA G (-11 - (k : Int))) (zA G) U H ∧ va_OF "java/lang/String" "value" "[B" (.ref (zgA G (-31 - (k : Int)))) (zgA G (-11 - (k : Int))) (zA G) U H ∧ va_T .byte (zgA G (-31 - (k : Int))) (zLTab.getD k []).length (fun j => .int (Int32.ofInt (zLA (-31 - (k : Int)) j))) (zA G) U H) ∧
  (vk_R "WarmWall$Wall" 11 "thg" (zgA G (-11)) U ∧ vk_R "WarmWall$Wall" 32 "rcfuh" (zgA G (-12)) U ∧ vk_R "WarmWall$Wall" 46 "wf" (zgA G (-13)) U) ∧
  va_Z "java/lang/String" "COMPACT_STRINGS" "Z" (.int 1) (zA G) U H ∧
  va_Z "jdk/internal/util/Preconditions" "SIOOBE_FORMATTER" "Ljava/util/function/BiFunction;" (zc G (5, zgF G)) (zA G) U H ∧
  va_AO "WarmWall$Law" U ∧ (∀ q ∈ zNst, va_Nw (.methodLinkNest q.1 q.2.1 q.2.2 "WarmWall") U) ∧ vx_Zq Bundle.tN "UNASSIGNED_STACK" Bundle.steD (zA G) U H ∧ vx_Zq Bundle.tN "SUPPRESSED_SENTINEL" Bundle.listD (zA G) U H
def zStk (n : Nat) (st : List zV) : Prop := ∀ q ∈ st, zRg n q.1 q.2 ∧ q.1 ≠ 3
def zLs (G : zG) (n : Nat) (ls : Array Slot) (nL : Nat) (L : List zV) : Prop := ls.size = nL ∧ lv_wf ls ∧ ∀ (i : Nat) (t : Nat) (x : Int), L[i]? = some (t, x) → t ≠ 3 → ls[i]? = some (.val (zc G (t, x))) ∧ zRg n t x
-- contracts
def zWs (h : zHdr) : List Cond := Cond.code (hY h) (hB h) (hL h) (hR h) :: zws
def zPc (G : zG) (md : Nat) (As : List zV) (v : zH) (n : Nat) : Array Value → State → Prop := va_Pc (As.map (zc G)) (fun U => zP G md v n U.heap ∧ zKt G U ∧ zSt G U U.heap ∧ zStk n As ∧ (md = 0 → U.heap.size = zgB G + n))
def zRet (G : zG) (t : Nat) (r : Int) : Option Value := match t with
  | 3 => none
  | 4 => some (.int (Int32.ofInt r))
  | t => some (zc G (t, r))
def zRr (n t : Nat) (r : Int) : Prop := match t with
  | 3 => True
  | 4 => zI r
  | t => zRg n t r
def zQc (G : zG) (md : Nat) (h : zHdr) (n : Nat) (Q : Int → zH → Prop) : Array Value → State → Outcome → State → Prop := fun _ st oc t =>
  (∃ (r : Int) (v : zH), oc = .returned (zRet G (hT h) r) ∧ Q r v ∧ zP G md v (n + hMc h) t.heap ∧ zRr (n + hMc h) (hT h) r) ∧ va_F (zA G) st t
/-- a method's contract at depth d -/
def zC (l : Launch) (G : zG) (md d : Nat) (h : zHdr) (As : List zV) (v : zH) (n : Nat) (Q : Int → zH → Prop) : Prop :=
  Met l (hY h) (zWs h) { frames := d, cells := hMc h, slots := hMs h, locals := 60 * d } (zPc G md As v n) (zQc G md h n Q) (hMc h) (hMs h) (zA G)
-- one instruction
abbrev zGo : Type := List zIns → List zV → List zV → zH → Nat → Prop
def zmsk : List Bool → List zV → List zV
  | true :: m, q :: L => q :: zmsk m L
  | false :: m, _ :: L => (3, 0) :: zmsk m L
  | _, L => L.map (fun _ => (3, 0))
def zcut (K : Nat → List zV → List zV → zH → Nat → Prop) (f : zGo) : zGo := fun cs L st v n => match cs with
  | [] => False
  | (p, pc, cut, ins) :: cs' => match cut with
    | some m => K p (zmsk m L) st v n
    | none => f ((p, pc, none, ins) :: cs') L st v n
def zupd (v : zH) (a j x : Int) : zH := fun a' j' => if a' = a ∧ j' = j then x else v a' j'
def zcp (v : zH) (a sp b dp n : Int) : zH := fun a' j => if a' = b ∧ dp ≤ j ∧ j < dp + n then v a (sp + (j - dp)) else v a' j
def zborn (v : zH) (n : Nat) : zH := fun a j => if a = n then (if zTg a j.toNat = 2 then -1000 else 0) else v a j
def zpl (L : List zV) (i : Nat) : Bool := match i with
  | 0 => false
  | j + 1 => match L[j]? with
    | some (1, _) => true
    | _ => false
def zget (L : List zV) (i t : Nat) (k : Int → Prop) : Prop := match L[i]? with
  | some (t', x) => match Nat.beq t' t with
    | true => k x
    | false => False
  | none => False
def zput (L : List zV) (i : Nat) (q : zV) (k : List zV → Prop) : Prop := match zpl L i with
  | true => False
  | false => match Nat.blt i L.length with
    | true => k (L.set i q)
    | false => False
def zput2 (L : List zV) (i : Nat) (q : zV) (k : List zV → Prop) : Prop := match zpl L i with
  | true => False
  | false => match Nat.blt (i + 1) L.length with
    | true => k ((L.set i q).set (i + 1) (3, 0))
    | false => False
def zand (x y : Int) : Int := (Int32.ofInt x &&& Int32.ofInt y).toInt
def zor (x y : Int) : Int := (Int32.ofInt x ||| Int32.ofInt y).toInt
def zxor (x y : Int) : Int := (Int32.ofInt x ^^^ Int32.ofInt y).toInt
def zshl (x y : Int) : Int := (Int32.ofInt x <<< (Int32.ofInt y &&& 31)).toInt
def zshr (x y : Int) : Int := (Int32.ofInt x >>> (Int32.ofInt y &&& 31)).toInt
def zushr (x y : Int) : Int := (((Int32.ofInt x).toUInt32 >>> ((Int32.ofInt y).toUInt32 &&& Int32.toUInt32 31)).toInt32).toInt
def zcmp (x y : Int) : Int := if x < y then -1 else if x = y then 0 else 1
/-- two numbers off the stack -/
def z2 (st : List zV) (k : Int → Int → List zV → Prop) : Prop := match st with
  | (0, y) :: (0, x) :: r => k x y r
  | _ => False
def z2l (st : List zV) (k : Int → Int → List zV → Prop) : Prop := match st with
  | (1, y) :: (1, x) :: r => k x y r
  | _ => False
def z1 (st : List zV) (k : Int → List zV → Prop) : Prop := match st with
  | (0, x) :: r => k x r
  | _ => False
def z1l (st : List zV) (k : Int → List zV → Prop) : Prop := match st with
  | (1, x) :: r => k x r
  | _ => False
def z1r (st : List zV) (k : Int → List zV → Prop) : Prop := match st with
  | (2, x) :: r => k x r
  | _ => False
/-- a row's place: number over reference -/
def zix (st : List zV) (k : Int → Int → List zV → Prop) : Prop := match st with
  | (0, j) :: (2, a) :: r => k a j r
  | _ => False
def zixv (t : Nat) (st : List zV) (k : Int → Int → Int → List zV → Prop) : Prop := match st with
  | (t', x) :: (0, j) :: (2, a) :: r => match Nat.beq t' t with
    | true => k a j x r
    | false => False
  | _ => False
def zcnd (c : Jvm.ClassFile.Cond) (x y : Int) (a b : Prop) : Prop := match c with
  | .eq => (x = y → a) ∧ (¬ x = y → b)
  | .ne => (¬ x = y → a) ∧ (x = y → b)
  | .lt => (x < y → a) ∧ (y ≤ x → b)
  | .ge => (y ≤ x → a) ∧ (x < y → b)
  | .gt => (y < x → a) ∧ (x ≤ y → b)
  | .le => (x ≤ y → a) ∧ (y < x → b)
def zsw (x : Int) (f : Nat → Prop) (d : Nat) : Int → List Nat → Prop
  | lo, [] => (lo ≤ x → f d)
  | lo, t :: ts => (x = lo → f t) ∧ zsw x f d (lo + 1) ts
def zlk (x : Int) (f : Nat → Prop) (d : Nat) : List (Int × Int) → List Nat → Prop
  | p :: ps, t :: ts => (x = p.1 → f t) ∧ (¬ x = p.1 → zlk x f d ps ts)
  | _, _ => f d
def zcats (st : List zV) : Nat := match st with
  | [] => 0
  | (1, _) :: r => 2 + zcats r
  | _ :: r => 1 + zcats r
def zpsh (t : Nat) (r : Int) (st : List zV) : List zV := match t with
  | 3 => st
  | 4 => (0, r) :: st
  | t => (t, r) :: st
def znr (t : Option FieldType) (x : Int) : Prop := match t with
  | some .boolean => x = 0 ∨ x = 1
  | some .char => 0 ≤ x ∧ x ≤ 65535
  | some .byte => -128 ≤ x ∧ x ≤ 127
  | some .short => -32768 ≤ x ∧ x ≤ 32767
  | _ => True
def zrecv (st : List zV) (k : Int → Prop) : Prop := match st with
  | (2, o) :: _ => k o
  | _ => False
def zdp (d : Nat) (k : Nat → Prop) : Prop := match d with
  | 0 => False
  | d + 1 => k d
/-- a call: na values off the stack -/
def zcall (l : Launch) (G : zG) (md d : Nat) (h : zHdr) (na : Nat) (st : List zV) (v : zH) (n : Nat) (k : List zV → zH → Nat → Prop) : Prop :=
  match Nat.ble (zcats (st.drop na)) 8 with
  | false => False
  | true => match Nat.beq (st.take na).length na with
    | false => False
    | true => zdp d fun d' => zC l G md d' h (st.take na).reverse v n (fun r v' => k (zpsh (hT h) r (st.drop na)) v' (n + hMc h))
/-- what a call's receiver must be: a class by its number, or a text -/
def zrc (c : Nat) (As : List zV) (k : Prop) : Prop := zrecv As fun o => zCL o = c ∧ k
