/-! THE PURE PART: folds, places, the wall, the course of hours -/
def fd {α : Type} (f : α → Int → α) (s : α) : Nat → α
  | 0 => s
  | n + 1 => f (fd f s n) (n : Int)
theorem fd_0 {α : Type} {f : α → Int → α} {s : α} : fd f s 0 = s := rfl
theorem fd_s {α : Type} {f : α → Int → α} {s : α} {n : Nat} : fd f s (n + 1) = f (fd f s n) (n : Int) := rfl
theorem fd_ext {α : Type} {f g : α → Int → α} {s : α} : ∀ n : Nat, (∀ (t : α) (i : Int), 0 ≤ i → i < n → f t i = g t i) → fd f s n = fd g s n
  | 0, _ => rfl
  | n + 1, h => by
    rw [fd_s, fd_s, fd_ext n (fun t i h1 h2 => h t i h1 (by omega))]
    exact h _ _ (by omega) (by omega)
def zrg (n : Nat) : List Int := (List.range n).map (fun i : Nat => (i : Int))
theorem fd_fold {α : Type} {f : α → Int → α} {s : α} : ∀ n : Nat, fd f s n = (zrg n).foldl f s
  | 0 => rfl
  | n + 1 => by
    rw [fd_s, fd_fold n]
    unfold zrg
    rw [List.range_succ, List.map_append, List.foldl_append]
    rfl
def zsm (g : Int → Int) (n : Nat) : Int := fd (fun s i => s + g i) 0 n
theorem zsm_0 {g : Int → Int} : zsm g 0 = 0 := rfl
theorem zsm_s {g : Int → Int} {n : Nat} : zsm g (n + 1) = zsm g n + g (n : Int) := rfl
theorem zsm_ext {f g : Int → Int} {n : Nat} (h : ∀ i : Int, 0 ≤ i → i < n → f i = g i) : zsm f n = zsm g n :=
  fd_ext n (fun t i h1 h2 => by rw [h i h1 h2])
theorem zsm_add {f g : Int → Int} : ∀ n : Nat, zsm (fun i => f i + g i) n = zsm f n + zsm g n
  | 0 => rfl
  | n + 1 => by rw [zsm_s, zsm_s, zsm_s, zsm_add n]; omega
theorem zsm_mul {f : Int → Int} {k : Int} : ∀ n : Nat, zsm (fun i => k * f i) n = k * zsm f n
  | 0 => by rw [zsm_0, zsm_0, Int.mul_zero]
  | n + 1 => by rw [zsm_s, zsm_s, zsm_mul n, Int.mul_add]
theorem zsm_b {f : Int → Int} {k : Int} : ∀ n : Nat, (∀ i : Int, 0 ≤ i → i < n → 0 ≤ f i ∧ f i ≤ k) → 0 ≤ zsm f n ∧ zsm f n ≤ k * n
  | 0, _ => by rw [zsm_0]; simp
  | n + 1, h => by
    have h1 := zsm_b (f := f) (k := k) n (fun i h1 h2 => h i h1 (by omega))
    have h2 := h n (by omega) (by omega)
    rw [zsm_s]
    have e : k * ((n + 1 : Nat) : Int) = k * n + k := by rw [Int.natCast_add, Int.mul_add]; simp
    rw [e]
    omega
theorem zsm_zero {f : Int → Int} {n : Nat} (h : ∀ i : Int, 0 ≤ i → i < n → f i = 0) : zsm f n = 0 := by
  rw [zsm_ext (g := fun _ => 0) h]
  induction n with
  | zero => rfl
  | succ n ih => rw [zsm_s, ih (fun i h1 h2 => h i h1 (by omega))]; rfl
def nmi (C a : Int) : Int := 10 * (a / C) + a % C
def adj (C a b : Int) : Bool := decide (((a / C - b / C).natAbs : Int) + ((a % C - b % C).natAbs : Int) = 1)
theorem adj_iff {C a b : Int} : adj C a b = true ↔ ((a / C - b / C).natAbs : Int) + ((a % C - b % C).natAbs : Int) = 1 := by simp [adj]
theorem adj_comm {C a b : Int} : adj C a b = adj C b a := by
  rw [Bool.eq_iff_iff, adj_iff, adj_iff]
  omega
theorem c6 {C : Int} (h : 0 ≤ C ∧ C ≤ 6) : C = 0 ∨ C = 1 ∨ C = 2 ∨ C = 3 ∨ C = 4 ∨ C = 5 ∨ C = 6 := by omega
theorem nmF : ∀ R : Fin 5, ∀ C : Fin 7, ((zrg 36).filter (isc ((R.val : Nat) : Int) ((C.val : Nat) : Int))).map (ixn ((C.val : Nat) : Int)) = zrg (R.val * C.val) := by decide +kernel
theorem fd_nm {α : Type} {g : α → Int → α} {s : α} {R C : Int} (b1 : 0 ≤ R ∧ R ≤ 4) (b2 : 0 ≤ C ∧ C ≤ 6) : fd (fun t c => if isc R C c then g t (ixn C c) else t) s 36 = fd g s (R * C).toNat := by
  have h := nmF ⟨R.toNat, by omega⟩ ⟨C.toNat, by omega⟩
  simp only at h
  have e1 : ((R.toNat : Nat) : Int) = R := by omega
  have e2 : ((C.toNat : Nat) : Int) = C := by omega
  rw [e1, e2] at h
  have e3 : R.toNat * C.toNat = (R * C).toNat := by
    rw [Int.toNat_mul b1.1 b2.1]
  rw [e3] at h
  rw [fd_fold, fd_fold, ← h, List.foldl_map, List.foldl_filter]
theorem zsm_nm {g : Int → Int} {R C : Int} (b1 : 0 ≤ R ∧ R ≤ 4) (b2 : 0 ≤ C ∧ C ≤ 6) : zsm (fun c => if isc R C c then g (ixn C c) else 0) 36 = zsm g (R * C).toNat := by
  unfold zsm
  rw [← fd_nm b1 b2]
  refine fd_ext _ (fun t i _ _ => ?_)
  by_cases q : isc R C i = true <;> simp [q]
theorem gE {R C c : Int} (b1 : R ≤ 4) (b2 : 0 ≤ C ∧ C ≤ 6) (h : isc R C c = true) : 0 ≤ ixn C c ∧ ixn C c < R * C ∧ ixn C c / C = c / 10 ∧ ixn C c % C = c % 10 ∧ nmi C (ixn C c) = c ∧ 0 ≤ c ∧ c ≤ 35 ∧ 1 ≤ C ∧ 1 ≤ R := by
  rw [isc_iff] at h
  unfold nmi ixn
  rcases c6 b2 with rfl | rfl | rfl | rfl | rfl | rfl | rfl <;> omega
theorem gN {R C a : Int} (b1 : R ≤ 4) (b2 : 0 ≤ C ∧ C ≤ 6) (h : 0 ≤ a ∧ a < R * C) : isc R C (nmi C a) = true ∧ ixn C (nmi C a) = a := by
  rw [isc_iff]
  unfold ixn nmi
  rcases c6 b2 with rfl | rfl | rfl | rfl | rfl | rfl | rfl <;> omega
theorem gA {R C a : Int} (b2 : 0 ≤ C ∧ C ≤ 6) (h : 0 ≤ a ∧ a < R * C) : 0 ≤ a / C ∧ a / C < R ∧ 0 ≤ a % C ∧ a % C < C ∧ 1 ≤ C ∧ a = a / C * C + a % C := by
  rcases c6 b2 with rfl | rfl | rfl | rfl | rfl | rfl | rfl <;> omega
/-- the four sides, as the class tells them -/
def sd (R C a i : Int) : Int :=
  if i = 0 then (if 0 < a / C then a - C else -1)
  else if i = 1 then (if a / C < R - 1 then a + C else -1)
  else if i = 2 then (if 0 < a % C then a - 1 else -1)
  else (if a % C < C - 1 then a + 1 else -1)
theorem sd_b {R C a i : Int} (b1 : 0 ≤ R ∧ R ≤ 4) (b2 : 0 ≤ C ∧ C ≤ 6) (h : 0 ≤ a ∧ a < R * C) : sd R C a i = -1 ∨ (0 ≤ sd R C a i ∧ sd R C a i < R * C) := by
  unfold sd
  rcases c6 b2 with rfl | rfl | rfl | rfl | rfl | rfl | rfl <;> (split <;> (try split) <;> (try split) <;> (try split) <;> omega)
theorem sd_adj {R C a x : Int} (b1 : 0 ≤ R ∧ R ≤ 4) (b2 : 0 ≤ C ∧ C ≤ 6) (h : 0 ≤ a ∧ a < R * C) (hx : 0 ≤ x ∧ x < R * C) : (if sd R C a 0 = x then (1 : Int) else 0) + (if sd R C a 1 = x then 1 else 0) + (if sd R C a 2 = x then 1 else 0) + (if sd R C a 3 = x then 1 else 0) = if adj C a x then 1 else 0 := by
  have e0 : sd R C a 0 = (if 0 < a / C then a - C else -1) := rfl
  have e1 : sd R C a 1 = (if a / C < R - 1 then a + C else -1) := rfl
  have e2 : sd R C a 2 = (if 0 < a % C then a - 1 else -1) := rfl
  have e3 : sd R C a 3 = (if a % C < C - 1 then a + 1 else -1) := rfl
  have e4 := adj_iff (C := C) (a := a) (b := x)
  rw [e0, e1, e2, e3]
  by_cases ha : adj C a x = true
  · rw [if_pos ha]
    rw [e4] at ha
    rcases c6 b2 with rfl | rfl | rfl | rfl | rfl | rfl | rfl <;> (repeat' split) <;> omega
  · rw [if_neg ha]
    rw [e4] at ha
    rcases c6 b2 with rfl | rfl | rfl | rfl | rfl | rfl | rfl <;> (repeat' split) <;> omega
theorem sd_cntF : ∀ R : Fin 5, ∀ C : Fin 7, ∀ a : Fin 24, a.val < R.val * C.val → zsm (fun x => if adj ((C.val : Nat) : Int) ((a.val : Nat) : Int) x then 1 else 0) (R.val * C.val) = zsm (fun i => if sd ((R.val : Nat) : Int) ((C.val : Nat) : Int) ((a.val : Nat) : Int) i = -1 then 0 else 1) 4 := by decide +kernel
theorem sd_cnt {R C a : Int} (b1 : 0 ≤ R ∧ R ≤ 4) (b2 : 0 ≤ C ∧ C ≤ 6) (h : 0 ≤ a ∧ a < R * C) : zsm (fun x => if adj C a x then 1 else 0) (R * C).toNat = zsm (fun i => if sd R C a i = -1 then 0 else 1) 4 := by
  have e3 : R.toNat * C.toNat = (R * C).toNat := by rw [Int.toNat_mul b1.1 b2.1]
  have hb : R * C ≤ 4 * 6 := Int.mul_le_mul b1.2 b2.2 b2.1 (by omega)
  have h := sd_cntF ⟨R.toNat, by omega⟩ ⟨C.toNat, by omega⟩ ⟨a.toNat, by omega⟩ (by simp only; rw [e3]; omega)
  simp only at h
  have e1 : ((R.toNat : Nat) : Int) = R := by omega
  have e2 : ((C.toNat : Nat) : Int) = C := by omega
  have e4 : ((a.toNat : Nat) : Int) = a := by omega
  rw [e1, e2, e3, e4] at h
  exact h
-- the wall: rows, columns, cells; stones; ovens; sleepers; sorts of the cells as told
abbrev zWl : Type := Int × Int × Int × Int × (Int → Int) × Int × (Int → Int) × Int × (Int → Int) × (Int → Int)
def wR (W : zWl) : Int := W.1
def wC (W : zWl) : Int := W.2.1
def wN (W : zWl) : Int := W.2.2.1
def wS (W : zWl) : Int := W.2.2.2.1
def wT (W : zWl) : Int → Int := W.2.2.2.2.1
def wO (W : zWl) : Int := W.2.2.2.2.2.1
def wV (W : zWl) : Int → Int := W.2.2.2.2.2.2.1
def wZ (W : zWl) : Int := W.2.2.2.2.2.2.2.1
def wL (W : zWl) : Int → Int := W.2.2.2.2.2.2.2.2.1
def wG (W : zWl) : Int → Int := W.2.2.2.2.2.2.2.2.2
/-- a wall as it may be -/
def Wok (W : zWl) : Prop :=
  (0 ≤ wR W ∧ wR W ≤ 4) ∧ (0 ≤ wC W ∧ wC W ≤ 6) ∧ wN W = wR W * wC W ∧ (0 ≤ wN W ∧ wN W ≤ 24) ∧ (1 ≤ wR W → 1 ≤ wC W ∧ 1 ≤ wS W ∧ 1 ≤ wN W) ∧ (wR W = 0 → wC W = 0 ∧ wN W = 0) ∧
  (0 ≤ wS W ∧ wS W ≤ 4) ∧ (0 ≤ wO W ∧ wO W ≤ 3) ∧ (0 ≤ wZ W ∧ wZ W ≤ 5) ∧
  (∀ s : Int, 0 ≤ s → s < wS W → (0 ≤ wT W (3 * s) ∧ wT W (3 * s) ≤ 9) ∧ (1 ≤ wT W (3 * s + 1) ∧ wT W (3 * s + 1) ≤ 99) ∧ (0 ≤ wT W (3 * s + 2) ∧ wT W (3 * s + 2) ≤ 10)) ∧
  (∀ k : Int, 0 ≤ k → k < wO W → (0 ≤ wV W (5 * k) ∧ wV W (5 * k) < wR W) ∧ (0 ≤ wV W (5 * k + 1) ∧ wV W (5 * k + 1) < wC W) ∧ (0 ≤ wV W (5 * k + 2) ∧ wV W (5 * k + 2) ≤ 23) ∧ (0 ≤ wV W (5 * k + 3) ∧ wV W (5 * k + 3) ≤ 23) ∧ (0 ≤ wV W (5 * k + 4) ∧ wV W (5 * k + 4) ≤ 20)) ∧
  (∀ k : Int, 0 ≤ k → k < wZ W → (0 ≤ wL W (2 * k) ∧ wL W (2 * k) ≤ 99) ∧ (0 ≤ wL W (2 * k + 1) ∧ wL W (2 * k + 1) ≤ 9)) ∧
  (∀ a : Int, 0 ≤ a → a < wN W → 0 ≤ wG W a ∧ wG W a < wS W)
-- the course: the hour, warmths, sorts, ovens' hours
abbrev zCo : Type := Int × (Int → Int) × (Int → Int) × (Int → Int) × (Int → Int)
def cH (c : zCo) : Int := c.1
def cW (c : zCo) : Int → Int := c.2.1
def cS (c : zCo) : Int → Int := c.2.2.1
def cF (c : zCo) : Int → Int := c.2.2.2.1
def cU (c : zCo) : Int → Int := c.2.2.2.2
def Cok (W : zWl) (c : zCo) : Prop :=
  (0 ≤ cH c ∧ cH c ≤ 1000000) ∧ (∀ a : Int, 0 ≤ a → a < wN W → (0 ≤ cS c a ∧ cS c a < wS W) ∧ 0 ≤ cW c a ∧ cW c a ≤ wT W (3 * cS c a + 1)) ∧
  (∀ k : Int, 0 ≤ k → k < wO W → (0 ≤ cF c k ∧ cF c k ≤ 23) ∧ (0 ≤ cU c k ∧ cU c k ≤ 23))
-- an hour
abbrev zSn : Type := Int → Int → Int → Int → Int
def sGiv (W : zWl) (c : zCo) (a : Int) : Int := cW c a * wT W (3 * cS c a + 2) / 10
def sRain (rn hr : Int) : Bool := decide (zand (zshr rn (hr % 24)) 1 = 1)
def sNb (W : zWl) (f : Int → Int) (a : Int) : Int := zsm (fun o => if adj (wC W) a o then f o else 0) (wN W).toNat
def sCnt (W : zWl) (a : Int) : Int := zsm (fun o => if adj (wC W) a o then 1 else 0) (wN W).toNat
def sBurn (f u h : Int) : Bool := if f ≤ u then decide (f ≤ h % 24) && decide (h % 24 < u) else decide (f ≤ h % 24) || decide (h % 24 < u)
def oc (W : zWl) (k : Int) : Int := wV W (5 * k) * wC W + wV W (5 * k + 1)
def sOv1 (W : zWl) (c : zCo) (a k : Int) : Int := if sBurn (cF c k) (cU c k) (cH c) then (if oc W k = a then wV W (5 * k + 4) else if adj (wC W) (oc W k) a then wV W (5 * k + 4) / 2 else 0) else 0
def sOv (W : zWl) (c : zCo) (a : Int) : Int := zsm (sOv1 W c a) (wO W).toNat
def sSun (W : zWl) (sn : zSn) (rn : Int) (c : zCo) (a : Int) : Int := if sRain rn (cH c) then 0 else sn (cH c) (a / wC W) (a % wC W) (cS c a) * wT W (3 * cS c a)
def sW3 (W : zWl) (sn : zSn) (rn : Int) (c : zCo) (a : Int) : Int := cW c a - sGiv W c a + sSun W sn rn c a + sNb W (fun o => sGiv W c o / 4) a + sOv W c a
def sW4 (W : zWl) (sn : zSn) (rn : Int) (c : zCo) (a : Int) : Int := if sRain rn (cH c) then max 0 (sW3 W sn rn c a - 2) else sW3 W sn rn c a
def sOver (W : zWl) (sn : zSn) (rn : Int) (c : zCo) (a : Int) : Int := max 0 (sW4 W sn rn c a - wT W (3 * cS c a + 1))
def sWm (W : zWl) (sn : zSn) (rn : Int) (c : zCo) (a : Int) : Int := sW4 W sn rn c a - sOver W sn rn c a
def sFelt (W : zWl) (sn : zSn) (rn : Int) (c : zCo) (a : Int) : Int := sGiv W c a - sGiv W c a / 4 * sCnt W a + sOver W sn rn c a
def sStep (W : zWl) (sn : zSn) (rn : Int) (c : zCo) : zCo := (cH c + 1, sWm W sn rn c, cS c, cF c, cU c)
def sSt (W : zWl) (sn : zSn) (rn : Int) (c : zCo) : Nat → zCo
  | 0 => c
  | n + 1 => sStep W sn rn (sSt W sn rn c n)
def snOk (sn : zSn) : Prop := ∀ h r c s : Int, 0 ≤ sn h r c s ∧ sn h r c s ≤ 9
theorem sGiv_b {W : zWl} {c : zCo} {a : Int} (hW : Wok W) (hc : Cok W c) (h0 : 0 ≤ a) (h1 : a < wN W) : 0 ≤ sGiv W c a ∧ sGiv W c a ≤ cW c a ∧ sGiv W c a ≤ 99 := by
  obtain ⟨-, -, -, -, -, -, -, -, -, hs, -, -, -⟩ := hW
  obtain ⟨-, hc, -⟩ := hc
  obtain ⟨⟨q1, q2⟩, q3, q4⟩ := hc a h0 h1
  obtain ⟨-, q5, q6⟩ := hs (cS c a) q1 q2
  have m1 : 0 ≤ cW c a * wT W (3 * cS c a + 2) := Int.mul_nonneg q3 q6.1
  have m2 : cW c a * wT W (3 * cS c a + 2) ≤ cW c a * 10 := Int.mul_le_mul_of_nonneg_left q6.2 q3
  unfold sGiv
  omega
theorem sCnt_b {W : zWl} {a : Int} (hW : Wok W) (h0 : 0 ≤ a) (h1 : a < wN W) : 0 ≤ sCnt W a ∧ sCnt W a ≤ 4 := by
  obtain ⟨w1, w2, w3, -⟩ := hW
  have e : sCnt W a = zsm (fun i => if sd (wR W) (wC W) a i = -1 then 0 else 1) 4 := by
    unfold sCnt
    rw [w3]
    exact sd_cnt w1 w2 (by omega)
  rw [e]
  have := zsm_b (f := fun i => if sd (wR W) (wC W) a i = -1 then 0 else 1) (k := 1) 4 (fun i _ _ => by split <;> omega)
  omega
theorem sNb_b {W : zWl} {f : Int → Int} {a k : Int} (hk : 0 ≤ k) (hW : Wok W) (hf : ∀ o : Int, 0 ≤ o → o < wN W → 0 ≤ f o ∧ f o ≤ k) : 0 ≤ sNb W f a ∧ sNb W f a ≤ k * 24 := by
  have h := zsm_b (f := fun o => if adj (wC W) a o then f o else 0) (k := k) (wN W).toNat (fun i h1 h2 => by
    have := hf i h1 (by omega)
    split <;> omega)
  obtain ⟨-, -, -, w4, -⟩ := hW
  have : k * ((wN W).toNat : Int) ≤ k * 24 := Int.mul_le_mul_of_nonneg_left (by omega) hk
  unfold sNb
  omega
theorem sOv1_b {W : zWl} {c : zCo} {a k : Int} (hW : Wok W) (h0 : 0 ≤ k) (h1 : k < wO W) : 0 ≤ sOv1 W c a k ∧ sOv1 W c a k ≤ 20 := by
  obtain ⟨-, -, -, -, -, -, -, -, -, -, ho, -, -⟩ := hW
  have := ho k h0 h1
  unfold sOv1
  split
  · split
    · omega
    · split <;> omega
  · omega
theorem sOv_b {W : zWl} {c : zCo} {a : Int} (hW : Wok W) : 0 ≤ sOv W c a ∧ sOv W c a ≤ 60 := by
  have h := zsm_b (f := sOv1 W c a) (k := 20) (wO W).toNat (fun i h1 h2 => sOv1_b hW h1 (by omega))
  obtain ⟨-, -, -, -, -, -, -, w, -⟩ := hW
  unfold sOv
  omega
theorem sSun_b {W : zWl} {sn : zSn} {rn : Int} {c : zCo} {a : Int} (hs : snOk sn) (hW : Wok W) (hc : Cok W c) (h0 : 0 ≤ a) (h1 : a < wN W) : 0 ≤ sSun W sn rn c a ∧ sSun W sn rn c a ≤ 81 := by
  obtain ⟨-, -, -, -, -, -, -, -, -, ht, -, -, -⟩ := hW
  obtain ⟨-, hc, -⟩ := hc
  obtain ⟨⟨q1, q2⟩, q3, q4⟩ := hc a h0 h1
  obtain ⟨q5, -, -⟩ := ht (cS c a) q1 q2
  unfold sSun
  split
  · omega
  · have q := hs (cH c) (a / wC W) (a % wC W) (cS c a)
    have m1 := Int.mul_nonneg q.1 q5.1
    have m2 : sn (cH c) (a / wC W) (a % wC W) (cS c a) * wT W (3 * cS c a) ≤ 9 * 9 := Int.mul_le_mul q.2 q5.2 q5.1 (by omega)
    omega
theorem sW3_b {W : zWl} {sn : zSn} {rn : Int} {c : zCo} {a : Int} (hs : snOk sn) (hW : Wok W) (hc : Cok W c) (h0 : 0 ≤ a) (h1 : a < wN W) : 0 ≤ sW3 W sn rn c a ∧ sW3 W sn rn c a ≤ 3000 := by
  have g1 := sGiv_b hW hc h0 h1
  have g2 := sSun_b (rn := rn) hs hW hc h0 h1
  have g3 := sNb_b (a := a) (k := 24) (f := fun o => sGiv W c o / 4) (by omega) hW (fun o h0 h1 => by
    have := sGiv_b hW hc h0 h1
    omega)
  have g4 := sOv_b (c := c) (a := a) hW
  obtain ⟨-, -, -, -, -, -, -, -, -, ht, -, -, -⟩ := hW
  obtain ⟨-, hc, -⟩ := hc
  obtain ⟨⟨q1, q2⟩, q3, q4⟩ := hc a h0 h1
  obtain ⟨-, q5, -⟩ := ht (cS c a) q1 q2
  unfold sW3
  omega
theorem sWm_b {W : zWl} {sn : zSn} {rn : Int} {c : zCo} {a : Int} (hs : snOk sn) (hW : Wok W) (hc : Cok W c) (h0 : 0 ≤ a) (h1 : a < wN W) : 0 ≤ sWm W sn rn c a ∧ sWm W sn rn c a ≤ wT W (3 * cS c a + 1) ∧ 0 ≤ sOver W sn rn c a ∧ sOver W sn rn c a ≤ 3000 := by
  have g := sW3_b (rn := rn) hs hW hc h0 h1
  obtain ⟨-, -, -, -, -, -, -, -, -, ht, -, -, -⟩ := hW
  obtain ⟨-, hc, -⟩ := hc
  obtain ⟨⟨q1, q2⟩, q3, q4⟩ := hc a h0 h1
  obtain ⟨-, q5, -⟩ := ht (cS c a) q1 q2
  unfold sWm sOver sW4
  split <;> omega
theorem sFelt_b {W : zWl} {sn : zSn} {rn : Int} {c : zCo} {a : Int} (hs : snOk sn) (hW : Wok W) (hc : Cok W c) (h0 : 0 ≤ a) (h1 : a < wN W) : 0 ≤ sFelt W sn rn c a ∧ sFelt W sn rn c a ≤ 4000 := by
  have g1 := sGiv_b hW hc h0 h1
  have g2 := sWm_b (rn := rn) hs hW hc h0 h1
  have g3 := sCnt_b hW h0 h1
  have m1 : sGiv W c a / 4 * sCnt W a ≤ sGiv W c a / 4 * 4 := Int.mul_le_mul_of_nonneg_left g3.2 (by omega)
  have m2 : 0 ≤ sGiv W c a / 4 * sCnt W a := Int.mul_nonneg (by omega) g3.1
  unfold sFelt
  omega
theorem Cok_step {W : zWl} {sn : zSn} {rn : Int} {c : zCo} (hs : snOk sn) (hW : Wok W) (hc : Cok W c) (hh : cH c < 1000000) : Cok W (sStep W sn rn c) := by
  refine ⟨?_, fun a h0 h1 => ⟨(hc.2.1 a h0 h1).1, ?_⟩, hc.2.2⟩
  · have := hc.1
    show 0 ≤ cH c + 1 ∧ cH c + 1 ≤ 1000000
    omega
  · have := sWm_b (rn := rn) hs hW hc h0 h1
    exact ⟨this.1, this.2.1⟩
theorem sSt_H {W : zWl} {sn : zSn} {rn : Int} {c : zCo} : ∀ n : Nat, cH (sSt W sn rn c n) = cH c + n
  | 0 => by simp [sSt]
  | n + 1 => by
    show cH (sSt W sn rn c n) + 1 = _
    rw [sSt_H n]
    omega
theorem Cok_st {W : zWl} {sn : zSn} {rn : Int} {c : zCo} (hs : snOk sn) (hW : Wok W) (hc : Cok W c) : ∀ n : Nat, cH c + n ≤ 1000000 → Cok W (sSt W sn rn c n)
  | 0, _ => hc
  | n + 1, h => Cok_step hs hW (Cok_st hs hW hc n (by omega)) (by rw [sSt_H]; omega)
