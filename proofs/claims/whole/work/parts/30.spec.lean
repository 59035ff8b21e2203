/-! THE PURE PART: what every question answers -/
def aAhead (W : zWl) (S : zSk) (c : zCo) (a n k : Int) : Int := if isc (wR W) (wC W) a = true ∧ (1 ≤ n ∧ n ≤ 72) ∧ (0 ≤ k ∧ k ≤ 1) then (if k = 0 then cW (sSt W (sSn S) (kR S) c n.toNat) (ixn (wC W) a) else sFk W (sSn S) (kR S) c (n.toNat - 1) (ixn (wC W) a)) else -1
def aAir (W : zWl) (S : zSk) (c : zCo) (n : Int) : Int := if 0 < wR W ∧ (1 ≤ n ∧ n ≤ 72) then sAir W (sSn S) (kR S) c n.toNat else -1
def cOff (c : zCo) (o : Int) : zCo := (cH c, cW c, cS c, upf (cF c) o 0, upf (cU c) o 0)
def aWithout (W : zWl) (S : zSk) (c : zCo) (o n : Int) : Int := if (0 ≤ o ∧ o < wO W) ∧ (1 ≤ n ∧ n ≤ 72) then sAir W (sSn S) (kR S) c n.toNat - sAir W (sSn S) (kR S) (cOff c o) n.toNat else -1000000
def sSum (W : zWl) (c : zCo) : Int := zsm (cW c) (wN W).toNat
def sCld (W : zWl) (S : zSk) (c : zCo) (n : Nat) : Int × Int := fd (fun (p : Int × Int) k => if p.1 = -1 ∨ sSum W (sSt W (sSn S) (kR S) c (k.toNat + 1)) < p.2 then (k + 1, sSum W (sSt W (sSn S) (kR S) c (k.toNat + 1))) else p) (-1, 0) n
def aColdest (W : zWl) (S : zSk) (c : zCo) (n k : Int) : Int := if 0 < wR W ∧ (1 ≤ n ∧ n ≤ 72) ∧ (0 ≤ k ∧ k ≤ 1) then (if k = 0 then (sCld W S c n.toNat).1 else (sCld W S c n.toNat).2) else -1
def sFrz (W : zWl) (S : zSk) (c : zCo) (a : Int) (n : Nat) : Bool := fd (fun b k => b || decide (cW (sSt W (sSn S) (kR S) c (k.toNat + 1)) a = 0)) false n
def aFrost (W : zWl) (S : zSk) (c : zCo) (n : Int) : Int := if 0 < wR W ∧ (1 ≤ n ∧ n ≤ 72) then zsm (fun a => if sFrz W S c a n.toNat then 1 else 0) (wN W).toNat else -1
def sMinF (f : Int → Int) (n : Nat) : Int := fd (fun m a => min m (f a)) (f 0) n
def sMaxF (f : Int → Int) (n : Nat) : Int := fd (fun m a => max m (f a)) (f 0) n
def aSpread (W : zWl) (S : zSk) (c : zCo) (n : Int) : Int := if 0 < wR W ∧ (0 ≤ n ∧ n ≤ 72) then sMaxF (cW (sSt W (sSn S) (kR S) c n.toNat)) (wN W).toNat - sMinF (cW (sSt W (sSn S) (kR S) c n.toNat)) (wN W).toNat else -1
def aFlow (W : zWl) (S : zSk) (c : zCo) (a b n : Int) : Int := if isc (wR W) (wC W) a = true ∧ isc (wR W) (wC W) b = true ∧ adj (wC W) (ixn (wC W) a) (ixn (wC W) b) = true ∧ (1 ≤ n ∧ n ≤ 72) then zsm (fun k => sGiv W (sSt W (sSn S) (kR S) c k.toNat) (ixn (wC W) a) / 4) n.toNat else -1
def sBst (f : Int → Int) (n : Nat) : Int := fd (fun b a => if f b < f a then a else b) 0 n
def aGiver (W : zWl) (S : zSk) (c : zCo) (n k : Int) : Int := if 0 < wR W ∧ (1 ≤ n ∧ n ≤ 72) ∧ (0 ≤ k ∧ k ≤ 1) then (if k = 0 then nmi (wC W) (sBst (sFa W (sSn S) (kR S) c n.toNat) (wN W).toNat) else sFa W (sSn S) (kR S) c n.toNat (sBst (sFa W (sSn S) (kR S) c n.toNat) (wN W).toNat)) else -1
def sThw (W : zWl) (S : zSk) (c : zCo) (a x : Int) (n : Nat) : Int := fd (fun r k => if r = -1 ∧ x ≤ cW (sSt W (sSn S) (kR S) c k.toNat) a then k else r) (-1) n
def aThaw (W : zWl) (S : zSk) (c : zCo) (a x : Int) : Int := if isc (wR W) (wC W) a = true ∧ (0 ≤ x ∧ x ≤ 99) then sThw W S c (ixn (wC W) a) x 73 else -1
def aComfort (W : zWl) (S : zSk) (c : zCo) (z a : Int) : Int := if (0 ≤ z ∧ z < wZ W) ∧ isc (wR W) (wC W) a = true then sNi W (sSn S) (kR S) c (ixn (wC W) a) + wL W (2 * z + 1) else -1
def aStone (W : zWl) (s k : Int) : Int := if (0 ≤ s ∧ s < wS W) ∧ (0 ≤ k ∧ k ≤ 2) then wT W (3 * s + k) else -1
def aOven (W : zWl) (c : zCo) (o k : Int) : Int := if (0 ≤ o ∧ o < wO W) ∧ (0 ≤ k ∧ k ≤ 4) then (if k = 0 then 10 * wV W (5 * o) + wV W (5 * o + 1) else if k = 1 then cF c o else if k = 2 then cU c o else if k = 3 then wV W (5 * o + 4) else if sBurn (cF c o) (cU c o) (cH c) then 1 else 0) else -1
def aSleeper (W : zWl) (z k : Int) : Int := if (0 ≤ z ∧ z < wZ W) ∧ (0 ≤ k ∧ k ≤ 1) then wL W (2 * z + k) else -1
def aCellV (W : zWl) (S : zSk) (c : zCo) (a k : Int) : Int := if k = 0 then cS c (ixn (wC W) a) else if k = 1 then cW c (ixn (wC W) a) else if k = 2 then sSn S (cH c) (ixn (wC W) a / wC W) (ixn (wC W) a % wC W) (cS c (ixn (wC W) a)) else sFk W (sSn S) (kR S) c 0 (ixn (wC W) a)
-- days that are alike
def sLk (W : zWl) (S : zSk) (c : zCo) (i j : Nat) : Bool := zal (fun a => decide (cW (sSt W (sSn S) (kR S) c (24 * i)) a = cW (sSt W (sSn S) (kR S) c (24 * j)) a)) (wN W).toNat
def sDl (W : zWl) (S : zSk) (c : zCo) (j : Nat) (n : Nat) : Int := fd (fun r i => if r = -1 ∧ sLk W S c i.toNat j = true then i else r) (-1) n
def sSdy (W : zWl) (S : zSk) (c : zCo) (n : Nat) : Int × Int := fd (fun (r : Int × Int) j => if r.1 = -1 ∧ sDl W S c j.toNat j.toNat ≠ -1 then (sDl W S c j.toNat j.toNat, j - sDl W S c j.toNat j.toNat) else r) (-1, -1) n
def aSteady (W : zWl) (S : zSk) (c : zCo) (k : Int) : Int := if 0 < wR W ∧ (0 ≤ k ∧ k ≤ 1) then (if k = 0 then (sSdy W S c 21).1 else (sSdy W S c 21).2) else -1
-- the night
def sBf (f : Int → Int) (T : Int → Bool) (n : Nat) : Int := fd (fun b a => if T a = false ∧ (b = -1 ∨ f b < f a) then a else b) (-1) n
def sTk1 (T : Int → Bool) (b : Int) : Int → Bool := fun a => decide (a = b) || T a
/-- sleepers 0 .. k take each the best that is free: the last one's cell, who is taken behind it -/
def sCh (f : Int → Int) (n : Nat) : Nat → Int × (Int → Bool)
  | 0 => (-1, fun _ => false)
  | k + 1 => (sBf f (sCh f n k).2 n, if sBf f (sCh f n k).2 n = -1 then (sCh f n k).2 else sTk1 (sCh f n k).2 (sBf f (sCh f n k).2 n))
def aChoice (W : zWl) (S : zSk) (c : zCo) (z : Int) : Int := if 0 ≤ z ∧ z < wZ W then (if (sCh (sNi W (sSn S) (kR S) c) (wN W).toNat (z.toNat + 1)).1 = -1 then -1 else nmi (wC W) (sCh (sNi W (sSn S) (kR S) c) (wN W).toNat (z.toNat + 1)).1) else -1
def sBt (x k : Int) : Bool := decide (zand (zshr x k) 1 = 1)
def sPc (x : Int) : Int := (if sBt x 0 then 1 else 0) + (if sBt x 1 then 1 else 0) + (if sBt x 2 then 1 else 0) + (if sBt x 3 then 1 else 0) + (if sBt x 4 then 1 else 0)
def sAsk (W : zWl) (z : Int) : Int := wL W (2 * z) - wL W (2 * z + 1)
/-- how many of a set ask x or more; how many cells give it -/
def sWho (W : zWl) (x s : Int) : Int := zsm (fun z => if sBt s z = true ∧ x ≤ sAsk W z then 1 else 0) (wZ W).toNat
def sWrm (W : zWl) (f : Int → Int) (x : Int) : Int := zsm (fun a => if x ≤ f a then 1 else 0) (wN W).toNat
def sAll (W : zWl) (f : Int → Int) (s : Int) : Bool := zal (fun z => !(sBt s z) || decide (sWho W (sAsk W z) s ≤ sWrm W f (sAsk W z))) (wZ W).toNat
def sMst (W : zWl) (f : Int → Int) (n : Nat) : Int := fd (fun b s => if sPc b ≤ sPc s ∧ sAll W f s = true then s else b) 0 n
def aMost (W : zWl) (S : zSk) (c : zCo) (k : Int) : Int := if 0 < wR W ∧ (0 ≤ k ∧ k ≤ 1) then (if k = 0 then sPc (sMst W (sNi W (sSn S) (kR S) c) (2 ^ (wZ W).toNat)) else sMst W (sNi W (sSn S) (kR S) c) (2 ^ (wZ W).toNat)) else -1
-- an oven's best hours
def cOvn (c : zCo) (o f u : Int) : zCo := (cH c, cW c, cS c, upf (cF c) o f, upf (cU c) o u)
def sTmF (W : zWl) (S : zSk) (c : zCo) (o a h : Int) : Int := sNi W (sSn S) (kR S) (cOvn c o h ((h + (cU c o - cF c o + 24)) % 24)) a
def sTim (W : zWl) (S : zSk) (c : zCo) (o a : Int) (n : Nat) : Int × Int := fd (fun (p : Int × Int) h => if p.1 = -1 ∨ p.2 < sTmF W S c o a h then (h, sTmF W S c o a h) else p) (-1, 0) n
def aTiming (W : zWl) (S : zSk) (c : zCo) (o a k : Int) : Int := if (0 ≤ o ∧ o < wO W) ∧ isc (wR W) (wC W) a = true ∧ (0 ≤ k ∧ k ≤ 1) then (if k = 0 then (sTim W S c o (ixn (wC W) a) 24).1 else (sTim W S c o (ixn (wC W) a) 24).2) else -1
-- one stone changed
def sChF (W : zWl) (S : zSk) (c : zCo) (a : Int) (n : Nat) (b s : Int) : Int := sFk W (sSn S) (kR S) (sChg W c b s) (n - 1) a
def sCh2 (W : zWl) (S : zSk) (c : zCo) (a : Int) (n : Nat) (p : Int × Int) (b : Int) (m : Nat) : Int × Int := fd (fun (p : Int × Int) s => if p.2 < sChF W S c a n b s then (10 * nmi (wC W) b + s, sChF W S c a n b s) else p) p m
def sCh1 (W : zWl) (S : zSk) (c : zCo) (a : Int) (n : Nat) (m : Nat) : Int × Int := fd (fun p b => sCh2 W S c a n p b (wS W).toNat) (-1, -1) m
def aChanged (W : zWl) (S : zSk) (c : zCo) (a n k : Int) : Int := if isc (wR W) (wC W) a = true ∧ (1 ≤ n ∧ n ≤ 72) ∧ (0 ≤ k ∧ k ≤ 1) then (if k = 0 then (sCh1 W S c (ixn (wC W) a) n.toNat (wN W).toNat).1 else (sCh1 W S c (ixn (wC W) a) n.toNat (wN W).toNat).2) else -1
-- a wall laid anew: of way x from the last cell on: what rests, the sorts, the digits, the place
def sLay (W : zWl) (x : Int) : Nat → Int × (Int → Int) × Int × Int
  | 0 => (x, fun _ => 0, 0, 1)
  | m + 1 => ((sLay W x m).1 / wS W, upf (sLay W x m).2.1 (wN W - 1 - m) ((sLay W x m).1 % wS W), (sLay W x m).2.2.1 + (sLay W x m).2.2.2 * ((sLay W x m).1 % wS W + 1), (sLay W x m).2.2.2 * 10)
def cLaid (W : zWl) (c : zCo) (x : Int) : zCo := (cH c, fun _ => 0, (sLay W x (wN W).toNat).2.1, cF c, cU c)
def sLdF (W : zWl) (S : zSk) (c : zCo) (x : Int) : Int := sMinF (sNi W (sSn S) (kR S) (cLaid W c x)) (wN W).toNat
def sLad (W : zWl) (S : zSk) (c : zCo) (n : Nat) : Int × Int := fd (fun (p : Int × Int) x => if p.2 < sLdF W S c x then ((sLay W x (wN W).toNat).2.2.1, sLdF W S c x) else p) (-1, -1) n
def aLaid (W : zWl) (S : zSk) (c : zCo) (k : Int) : Int := if 0 < wR W ∧ (wN W ≤ 6 ∧ wS W ≤ 3) ∧ (0 ≤ k ∧ k ≤ 1) then (if k = 0 then (sLad W S c ((wS W).toNat ^ (wN W).toNat)).1 else (sLad W S c ((wS W).toNat ^ (wN W).toNat)).2) else -1000000
-- stones known by touches
def sLike (W : zWl) (S : zSk) (c : zCo) (T : zTo) (n : Nat) : Bool := zal (fun h => tAl T h (cW (sSt W (sSn S) (kR S) c h.toNat))) n
def sFit (W : zWl) (S : zSk) (c : zCo) (T : zTo) (a : Int) (n : Nat) : Int := fd (fun x s => if sLike W S (sChg W c a s) T 49 then zor x (zshl 1 s) else x) 0 n
def aFits (W : zWl) (S : zSk) (c : zCo) (T : zTo) (a : Int) : Int := if isc (wR W) (wC W) a = true then sFit W S c T (ixn (wC W) a) (wS W).toNat else -1
def sTry (W : zWl) (S : zSk) (c : zCo) (a s h b : Int) : Int := cW (sSt W (sSn S) (kR S) (sChg W c a s) h.toNat) b
def sNew (W : zWl) (S : zSk) (c : zCo) (a x h b s : Int) (n : Nat) : Bool := fd (fun y t => if sBt x t = true ∧ sTry W S c a t h b = sTry W S c a s h b then false else y) (sBt x s) n
def sUnl (W : zWl) (S : zSk) (c : zCo) (a x h b : Int) (n : Nat) : Int := fd (fun y s => if sNew W S c a x h b s s.toNat then y + 1 else y) 0 n
def sTc2 (W : zWl) (S : zSk) (c : zCo) (a x h : Int) (p : Int × Int) (n : Nat) : Int × Int := fd (fun (p : Int × Int) b => if p.2 < sUnl W S c a x h b (wS W).toNat then (100 * h + nmi (wC W) b, sUnl W S c a x h b (wS W).toNat) else p) p n
def sTc1 (W : zWl) (S : zSk) (c : zCo) (a x : Int) (n : Nat) : Int × Int := fd (fun p h => sTc2 W S c a x h p (wN W).toNat) (-1, 0) n
def aTouch (W : zWl) (S : zSk) (c : zCo) (T : zTo) (a n k : Int) : Int := if isc (wR W) (wC W) a = true ∧ (0 ≤ n ∧ n ≤ 24) ∧ (0 ≤ k ∧ k ≤ 1) then (if sFit W S c T (ixn (wC W) a) (wS W).toNat = 0 then -1 else if k = 0 then (sTc1 W S c (ixn (wC W) a) (sFit W S c T (ixn (wC W) a) (wS W).toNat) (n.toNat + 1)).1 else (sTc1 W S c (ixn (wC W) a) (sFit W S c T (ixn (wC W) a) (wS W).toNat) (n.toNat + 1)).2) else -1
