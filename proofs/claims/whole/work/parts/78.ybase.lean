/-! CONTEXTS OF WHICH MORE IS KNOWN: a place's debt over the contexts that keep Ee -/
abbrev yE : Type := Program → Env → Room → State → MethodId → Array Value → List Frame → Method → Code → (State → Prop) → Prop
def yJp (Ee : yE) (l : Launch) (G : zG) (md d : Nat) (h : zHdr) (n0 : Nat) (Q : Int → zH → Prop) (QX : Nat → zH → Prop) (pc : Nat) (L st : List zV) (v : zH) (n : Nat) : Prop :=
  ∀ (p : Program) (e : Env) (R : Room) (s : State) (m : MethodId) (args : Array Value) (below : List Frame) (meth : Method) (c : Code) (QW : State → Prop), zCtx l G md d h n0 Q QX p e R s m args below meth c QW → Ee p e R s m args below meth c QW →
  ∀ (H : Heap) (locs : List Loc) (ls : Array Slot), zP G md v n H → va_S (zA G) s.heap H locs → zLs G n ls (hL h) L → zStk n st → n0 ≤ n → n ≤ n0 + hMc h → zSZ n ≤ zSZ n0 + hMs h →
  W p l e R s m args below meth c H locs (n - n0) (zSZ n - zSZ n0) QW (F0 m pc ls (st.map (zc G)))
def yJ (Ee : yE) (l : Launch) (G : zG) (md d : Nat) (h : zHdr) (code : List zIns) (n0 : Nat) (Q : Int → zH → Prop) (QX : Nat → zH → Prop) (pos : Nat) (L st : List zV) (v : zH) (n : Nat) : Prop :=
  yJp Ee l G md d h n0 Q QX (zpc code pos) L st v n
