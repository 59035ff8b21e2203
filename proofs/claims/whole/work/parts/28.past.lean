/-! THE CLASS: a course that follows, is changed, begins, sleeps; the past; what was touched -/
def Fr (o : Int) (v v' : zH) : Prop := ∀ b : Int, fK b → b ≠ o → b ≠ o + 1 → b ≠ o + 2 → b ≠ o + 8 → v' b = v b
theorem Fr_tr {o : Int} {u v w : zH} (h : Fr o u v) (g : Fr o v w) : Fr o u w := fun b q0 q1 q2 q3 q4 => (g b q0 q1 q2 q3 q4).trans (h b q0 q1 q2 q3 q4)
theorem Fr_rf {o : Int} {v : zH} : Fr o v v := fun _ _ _ _ _ _ => rfl
theorem Fr_WL {o w : Int} {v v' : zH} {W : zWl} (ho : zco o) (hw : zwo w) (h : Fr o v v') (k : WL v w W) : WL v' w W :=
  WL_fr (fun a h1 h2 => h a (by unfold fK; omega) (by omega) (by omega) (by omega) (by omega)) k
def sFk (W : zWl) (sn : zSn) (rn : Int) (c : zCo) (n : Nat) (a : Int) : Int := sFelt W sn rn (sSt W sn rn c n) a
def sMn (f : Nat → Int) : Nat → Int
  | 0 => 0
  | k + 1 => if k = 0 then f 0 else min (sMn f k) (f k)
def sWk (c : zCo) : Int := (20 - cH c % 24 + 24) % 24
/-- the least that is felt at a cell in the night to come -/
def sNi (W : zWl) (sn : zSn) (rn : Int) (c : zCo) (a : Int) : Int := sMn (fun k => sFk W sn rn (sSt W sn rn c (sWk c).toNat) k a) 9
theorem sSt_add {W : zWl} {sn : zSn} {rn : Int} {c : zCo} (m : Nat) : ∀ n : Nat, sSt W sn rn c (m + n) = sSt W sn rn (sSt W sn rn c m) n
  | 0 => rfl
  | n + 1 => by
    show sStep W sn rn (sSt W sn rn c (m + n)) = sStep W sn rn (sSt W sn rn (sSt W sn rn c m) n)
    rw [sSt_add m n]
theorem sSt_1 {W : zWl} {sn : zSn} {rn : Int} {c : zCo} {n : Nat} : sSt W sn rn (sStep W sn rn c) n = sSt W sn rn c (n + 1) := by
  rw [Nat.add_comm n 1, sSt_add 1 n]
  rfl
theorem sFk_b {W : zWl} {sn : zSn} {rn : Int} {c : zCo} {n : Nat} {a : Int} (hs : snOk sn) (hW : Wok W) (hc : Cok W c) (hn : cH c + n ≤ 1000000) (h0 : 0 ≤ a) (h1 : a < wN W) : 0 ≤ sFk W sn rn c n a ∧ sFk W sn rn c n a ≤ 4000 :=
  sFelt_b hs hW (Cok_st hs hW hc n hn) h0 h1
theorem sMn_b {f : Nat → Int} : ∀ n : Nat, (∀ k, k < n → 0 ≤ f k ∧ f k ≤ 4000) → 0 ≤ sMn f n ∧ sMn f n ≤ 4000
  | 0, _ => by show (0 : Int) ≤ 0 ∧ (0 : Int) ≤ 4000; omega
  | n + 1, h => by
    have h1 := sMn_b n (fun k hk => h k (by omega))
    have h2 := h n (by omega)
    show 0 ≤ (if n = 0 then f 0 else min (sMn f n) (f n)) ∧ (if n = 0 then f 0 else min (sMn f n) (f n)) ≤ 4000
    split
    · rename_i e
      subst e
      exact h2
    · omega
theorem sWk_b {c : zCo} : 0 ≤ sWk c ∧ sWk c ≤ 23 := by
  unfold sWk
  omega
theorem sNi_b {W : zWl} {sn : zSn} {rn : Int} {c : zCo} {a : Int} (hs : snOk sn) (hW : Wok W) (hc : Cok W c) (hn : cH c + 32 ≤ 1000000) (h0 : 0 ≤ a) (h1 : a < wN W) : 0 ≤ sNi W sn rn c a ∧ sNi W sn rn c a ≤ 4000 := by
  have hw := sWk_b (c := c)
  refine sMn_b 9 (fun k hk => sFk_b hs hW (Cok_st hs hW hc _ (by omega)) ?_ h0 h1)
  rw [sSt_H]
  omega
-- the past: the latest hours' warmths, the latest first; an image: whether, warmths, hour
abbrev zPa : Type := List (Int → Int)
abbrev zIm : Type := Bool × (Int → Int) × Int
abbrev zTo : Type := Int × (Int → Int) × (Int → Int) × (Int → Int)
def tN (T : zTo) : Int := T.1
def tC (T : zTo) : Int → Int := T.2.1
def tH (T : zTo) : Int → Int := T.2.2.1
def tV (T : zTo) : Int → Int := T.2.2.2
def Tok (W : zWl) (T : zTo) : Prop := (0 ≤ tN T ∧ tN T ≤ 20) ∧ ∀ k : Int, 0 ≤ k → k < tN T → (0 ≤ tC T k ∧ tC T k < wN W) ∧ (0 ≤ tH T k ∧ tH T k ≤ 48) ∧ 0 ≤ tV T k ∧ tV T k ≤ 99
def tLast (T : zTo) : Int := fd (fun m k => max m (tH T k)) 0 (tN T).toNat
def tAl1 (T : zTo) (h : Int) (f : Int → Int) (k : Int) : Bool := !(decide (tH T k = h)) || decide (f (tC T k) = tV T k)
def tAl (T : zTo) (h : Int) (f : Int → Int) : Bool := zal (tAl1 T h f) (tN T).toNat
def PS (v : zH) (W : zWl) (L : zPa) (I : zIm) : Prop :=
  ∃ nx : Int, v 42 4 = nx ∧ (0 ≤ nx ∧ nx < 60) ∧ v 42 5 = L.length ∧ L.length ≤ 60 ∧ (∀ (i : Nat) (f : Int → Int), L[i]? = some f → ∀ a : Int, 0 ≤ a → a < wN W → v (42 + 1) ((nx + 59 - i) % 60 * 24 + a) = f a) ∧ v 42 2 = (if I.1 then 1 else 0) ∧ (I.1 = true → v 42 3 = I.2.2 ∧ ∀ a : Int, 0 ≤ a → a < wN W → v (42 + 2) a = I.2.1 a)
def TS (v : zH) (T : zTo) : Prop := v 45 3 = tN T ∧ ∀ k : Int, 0 ≤ k → k < tN T → v (45 + 1) k = tC T k ∧ v (45 + 2) k = tH T k ∧ v (45 + 3) k = tV T k
section
variable {l : Launch} {G : zG} {d : Nat} {v : zH} {Q : Int → zH → Prop}
theorem c_Co_follow {o p : Int} {W : zWl} {c : zCo} (ho : zco o) (hp : zco p) (hn : o ≠ p) (hW : Wok W) (hO : CO v p W c)
    (K : ∀ v' : zH, (∀ b, b ≠ o → b ≠ o + 1 → b ≠ o + 3 → b ≠ o + 4 → b ≠ o + 5 → v' b = v b) → CO v' o W c → Q 0 v') : zC l G 1 (d + 1) h_Co_follow [(2, o), (2, p)] v 115 Q := by
  have hx := ho
  have hy := hp
  have hN := hW.2.2.2.1
  have hO3 := hW.2.2.2.2.2.2.2.1
  obtain ⟨p0, ⟨p1, p1'⟩, ⟨p2, p2'⟩, ⟨p3, p3'⟩, ⟨p4, p4'⟩, ⟨p5, p5'⟩, -⟩ := zco_f hp
  obtain ⟨c0, ⟨c1, c1'⟩, ⟨c2, c2'⟩, ⟨c3, c3'⟩, ⟨c4, c4'⟩, ⟨c5, c5'⟩, ⟨c6, c6'⟩, ⟨c7, c7'⟩, ⟨c8, c8'⟩⟩ := zco_f ho
  obtain ⟨o1, o2, o3⟩ := hO
  refine zC_at ok_Co_follow ck_Co_follow rfl rfl (sg_Co_follow_0 ?_)
  refine ⟨p0, c0, p0, c0, ⟨p1, c1⟩, ⟨by omega, by omega, by omega, by omega, by omega⟩, p0, c0, ⟨p3, c3⟩, ⟨by omega, by omega, by omega, by omega, by omega⟩, p0, c0, ⟨p4, c4⟩, ⟨by omega, by omega, by omega, by omega, by omega⟩, p0, c0, ⟨p5, c5⟩, ⟨by omega, by omega, by omega, by omega, by omega⟩, ?_⟩
  refine K _ (fun b q0 q1 q3 q4 q5 => by rw [zcp_a q5, zcp_a q4, zcp_a q3, zcp_a q1, zup_a q0]) ⟨?_, fun a h1 h2 => ⟨?_, ?_⟩, fun k h1 h2 => ⟨?_, ?_⟩⟩
  · rw [zcp_a (by omega), zcp_a (by omega), zcp_a (by omega), zcp_a (by omega), zup_e rfl rfl]
    exact o1
  · rw [zcp_a (by omega), zcp_a (by omega), zcp_a (by omega), zcp_i (by omega) (by omega), zup_a (by omega)]
    have e : 0 + (a - 0) = a := by omega
    rw [e]
    exact (o2 a h1 h2).1
  · rw [zcp_a (by omega), zcp_a (by omega), zcp_i (by omega) (by omega), zcp_a (by omega), zup_a (by omega)]
    have e : 0 + (a - 0) = a := by omega
    rw [e]
    exact (o2 a h1 h2).2
  · rw [zcp_a (by omega), zcp_i (by omega) (by omega), zcp_a (by omega), zcp_a (by omega), zup_a (by omega)]
    have e : 0 + (k - 0) = k := by omega
    rw [e]
    exact (o3 k h1 h2).1
  · rw [zcp_i (by omega) (by omega), zcp_a (by omega), zcp_a (by omega), zcp_a (by omega), zup_a (by omega)]
    have e : 0 + (k - 0) = k := by omega
    rw [e]
    exact (o3 k h1 h2).2
/-- one stone changed -/
def sChg (W : zWl) (c : zCo) (a s : Int) : zCo := (cH c, upf (cW c) a (min (cW c a) (wT W (3 * s + 1))), upf (cS c) a s, cF c, cU c)
theorem Cok_chg {W : zWl} {c : zCo} {a s : Int} (hW : Wok W) (hc : Cok W c) (hs : 0 ≤ s ∧ s < wS W) : Cok W (sChg W c a s) := by
  refine ⟨hc.1, fun b h1 h2 => ?_, hc.2.2⟩
  have ht := hW.2.2.2.2.2.2.2.2.2.1 s hs.1 hs.2
  have hb := hc.2.1 b h1 h2
  show (0 ≤ upf (cS c) a s b ∧ upf (cS c) a s b < wS W) ∧ 0 ≤ upf (cW c) a (min (cW c a) (wT W (3 * s + 1))) b ∧ upf (cW c) a (min (cW c a) (wT W (3 * s + 1))) b ≤ wT W (3 * upf (cS c) a s b + 1)
  by_cases e : b = a
  · subst e
    rw [upf_s, upf_s]
    omega
  · rw [upf_n e, upf_n e]
    exact hb
theorem c_Co_change {o w a s : Int} {W : zWl} {c : zCo} (ho : zco o) (hw : zwo w) (hW : Wok W) (hl : WL v w W) (hc : Cok W c) (hO : CO v o W c) (ha : 0 ≤ a ∧ a < wN W) (hs : 0 ≤ s ∧ s < wS W)
    (K : ∀ v' : zH, (∀ b, b ≠ o + 1 → b ≠ o + 3 → v' b = v b) → CO v' o W (sChg W c a s) → Q 0 v') : zC l G 1 (d + 2) h_Co_change [(2, o), (0, a), (0, s), (2, w)] v 115 Q := by
  have hN := hW.2.2.2.1
  have ho' := ho
  have hw' := hw
  obtain ⟨c0, ⟨c1, c1'⟩, ⟨c2, c2'⟩, ⟨c3, c3'⟩, ⟨c4, c4'⟩, ⟨c5, c5'⟩, ⟨c6, c6'⟩, ⟨c7, c7'⟩, ⟨c8, c8'⟩⟩ := zco_f ho
  obtain ⟨w0, w1, w3, w5, ⟨w7, w7'⟩, ⟨w8, w8'⟩, ⟨w9, w9'⟩, ⟨w10, w10'⟩, ⟨w11, w11'⟩, ⟨w12, w12'⟩⟩ := zwo_f hw
  obtain ⟨o1, o2, o3⟩ := hO
  have e1 := (o2 a ha.1 ha.2).1
  refine zC_at ok_Co_change ck_Co_change rfl rfl (sg_Co_change_0 ?_)
  refine ⟨fun q1 => ?_, fun q2 => ⟨fun q3 => ?_, fun q4 => ⟨by first | decide | omega, by first | decide | omega, ⟨by first | decide | omega, by first | decide | omega⟩, by first | decide | omega, by first | decide | omega, by first | decide | omega, ⟨by first | decide | omega, by first | decide | omega⟩, by first | decide | omega, by first | decide | omega, ?_⟩⟩⟩
  try (any_goals (exfalso; omega))
  refine n_st hw' hW (WL_fr (fun b q1 q2 => zup_a (by omega)) hl) hs (by omega) ?_
  show _
  simp (disch := omega) only [zup_ak, e1]
  refine ⟨by first | decide | omega, ⟨by first | decide | omega, by first | decide | omega⟩, ?_⟩
  refine K _ (fun b q1 q3 => by rw [zup_a q1, zup_a q3]) ⟨?_, fun b h1 h2 => ⟨?_, ?_⟩, fun k h1 h2 => ?_⟩
  · rw [zup_ak (by omega), zup_ak (by omega)]
    exact o1
  · show _ = upf (cW c) a (min (cW c a) (wT W (3 * s + 1))) b
    by_cases e : b = a
    · rw [e, upf_s, zup_e rfl rfl]
    · rw [upf_n e, zup_j e, zup_ak (by omega)]
      exact (o2 b h1 h2).1
  · show _ = upf (cS c) a s b
    by_cases e : b = a
    · rw [e, upf_s, zup_ak (by omega), zup_e rfl rfl]
    · rw [upf_n e, zup_ak (by omega), zup_j e]
      exact (o2 b h1 h2).2
  · rw [zup_ak (by omega), zup_ak (by omega), zup_ak (by omega), zup_ak (by omega)]
    exact o3 k h1 h2
/-- sleeping: to the evening -/
theorem sl_13 {o w n : Int} {W : zWl} {S : zSk} {v0 : zH} {QX : Nat → zH → Prop} (ho : zco o) (hw : zwo w) (hW : Wok W) (hk : Sok S) (hn : n ≤ 30) :
    ∀ (m : Nat) {i : Int} {v : zH} {c : zCo}, 0 ≤ i → i + m = n → Fr o v0 v → WL v w W → Cok W c → cH c ≤ 999900 + i → CO v o W c → SK v S →
    (∀ v' : zH, Fr o v0 v' → SK v' S → CO v' o W (sSt W (sSn S) (kR S) c m) → zJ l G 1 (d + 5) h_Co_sleep k_Co_sleep 115 Q QX 24 [(2, o), (2, w), (2, 5), (3, 0), (0, 0), (3, 0)] [] v' 115) →
    zJ l G 1 (d + 5) h_Co_sleep k_Co_sleep 115 Q QX 13 [(2, o), (2, w), (2, 5), (0, n), (0, i), (3, 0)] [] v 115
  | 0, i, v, c, h0, hi, hf, hl, hc, hh, hO, hS, K => by
    refine zgo ck_Co_sleep 300 13 _ _ _ _ rfl (sg_Co_sleep_13 ?_)
    refine ⟨fun q1 => ?_, fun q2 => ⟨by first | decide | omega, ?_⟩⟩
    try (any_goals (exfalso; omega))
    exact K v hf hS hO
  | m + 1, i, v, c, h0, hi, hf, hl, hc, hh, hO, hS, K => by
    have c0 := (zco_f ho).1
    refine zgo ck_Co_sleep 300 13 _ _ _ _ rfl (sg_Co_sleep_13 ?_)
    refine ⟨fun q1 => ?_, fun q2 => ⟨by first | decide | omega, ?_⟩⟩
    try (any_goals (exfalso; omega))
    refine c_Co_step ho hw hW hl hc hO hk hS (fun v1 g1 g2 g3 g4 => ?_)
    refine ⟨⟨by first | decide | omega, by first | decide | omega⟩, ?_⟩
    refine sl_13 ho hw hW hk hn m (by omega) (by omega) (Fr_tr hf g1) (Fr_WL ho hw g1 hl) (Cok_step snOk_S hW hc (by omega)) (by show cH c + 1 ≤ _; omega) g3 g2 (fun v' q1 q2 q3 => K v' q1 q2 ?_)
    rw [← sSt_1]
    exact q3
theorem sl_33 {o w p : Int} {W : zWl} {v0 : zH} {QX : Nat → zH → Prop} {f g : Int → Int} (ho : zco o) (hw : zwo w) (hW : Wok W) (hl : WL v0 w W) (hp : 0 ≤ p ∧ p ≤ 100) (hf : ∀ a : Int, 0 ≤ a → a < wN W → v0 (o + 2) a = f a)
    (K : ∀ v' : zH, (∀ b, b ≠ o + 6 → v' b = v0 b) → (∀ a : Int, 0 ≤ a → a < wN W → v' (o + 6) a = if p = 0 then f a else min (g a) (f a)) → zJ l G 1 (d + 1) h_Co_sleep k_Co_sleep 115 Q QX 24 [(2, o), (2, w), (2, 5), (3, 0), (0, p + 1), (3, 0)] [] v' 115) :
    ∀ (m : Nat) {i : Int} {v : zH}, 0 ≤ i → i + m = wN W → (∀ b, b ≠ o + 6 → v b = v0 b) → (∀ a : Int, 0 ≤ a → a < i → v (o + 6) a = if p = 0 then f a else min (g a) (f a)) → (p ≠ 0 → ∀ a : Int, i ≤ a → a < wN W → v (o + 6) a = g a) →
    zJ l G 1 (d + 1) h_Co_sleep k_Co_sleep 115 Q QX 33 [(2, o), (2, w), (2, 5), (3, 0), (0, p), (0, i)] [] v 115
  | 0, i, v, h0, hi, hv, h1, h2 => by
    have hN3 := (WL_fr (v' := v) (fun a q1 q2 => hv a (by omega)) hl).2.2.1
    have hw0 := (zwo_f hw).1
    refine zgo ck_Co_sleep 300 33 _ _ _ _ rfl (sg_Co_sleep_33 ?_)
    rw [hN3]
    refine ⟨by first | decide | omega, ⟨fun q1 => ⟨⟨by first | decide | omega, by first | decide | omega⟩, ?_⟩, fun q2 => ⟨by first | decide | omega, ⟨fun q3 => ⟨by first | decide | omega, by first | decide | omega, ⟨by first | decide | omega, by first | decide | omega⟩, by first | decide | omega, by first | decide | omega, ⟨by first | decide | omega, by first | decide | omega⟩, by first | decide | omega, ⟨by first | decide | omega, by first | decide | omega⟩, ⟨by first | decide | omega, by first | decide | omega⟩, ?_⟩, fun q4 => ⟨by first | decide | omega, by first | decide | omega, ⟨by first | decide | omega, by first | decide | omega⟩, by first | decide | omega, ⟨by first | decide | omega, by first | decide | omega⟩, ⟨by first | decide | omega, by first | decide | omega⟩, ?_⟩⟩⟩⟩⟩
    try (any_goals (exfalso; omega))
    exact K v hv (fun a q1 q2 => h1 a q1 (by omega))
  | m + 1, i, v, h0, hi, hv, h1, h2 => by
    have hN := hW.2.2.2.1
    have hN3 := (WL_fr (v' := v) (fun a q1 q2 => hv a (by omega)) hl).2.2.1
    have ho' := ho
    have hw' := hw
    obtain ⟨c0, ⟨c1, c1'⟩, ⟨c2, c2'⟩, ⟨c3, c3'⟩, ⟨c4, c4'⟩, ⟨c5, c5'⟩, ⟨c6, c6'⟩, ⟨c7, c7'⟩, ⟨c8, c8'⟩⟩ := zco_f ho
    have hw0 := (zwo_f hw).1
    have e2 : v (o + 2) i = f i := by rw [hv _ (by omega)]; exact hf i h0 (by omega)
    refine zgo ck_Co_sleep 300 33 _ _ _ _ rfl (sg_Co_sleep_33 ?_)
    rw [hN3, e2]
    have next : ∀ x : Int, x = (if p = 0 then f i else min (g i) (f i)) → zJ l G 1 (d + 1) h_Co_sleep k_Co_sleep 115 Q QX 33 [(2, o), (2, w), (2, 5), (3, 0), (0, p), (0, i + 1)] [] (zupd v (o + 6) i x) 115 := by
      intro x hx
      refine sl_33 ho' hw' hW hl hp hf K m (by omega) (by omega) (fun b q => (zup_a q).trans (hv b q)) (fun a q1 q2 => ?_) (fun q0 a q1 q2 => ?_)
      · by_cases e : a = i
        · subst e
          rw [zup_s]
          exact hx
        · rw [zup_j e]
          exact h1 a q1 (by omega)
      · rw [zup_j (by omega)]
        exact h2 q0 a (by omega) q2
    refine ⟨by first | decide | omega, ⟨fun q1 => ⟨⟨by first | decide | omega, by first | decide | omega⟩, ?_⟩, fun q2 => ⟨by first | decide | omega, ⟨fun q3 => ⟨by first | decide | omega, by first | decide | omega, ⟨by first | decide | omega, by first | decide | omega⟩, by first | decide | omega, by first | decide | omega, ⟨by first | decide | omega, by first | decide | omega⟩, by first | decide | omega, ⟨by first | decide | omega, by first | decide | omega⟩, ⟨by first | decide | omega, by first | decide | omega⟩, ?_⟩, fun q4 => ⟨by first | decide | omega, by first | decide | omega, ⟨by first | decide | omega, by first | decide | omega⟩, by first | decide | omega, ⟨by first | decide | omega, by first | decide | omega⟩, ⟨by first | decide | omega, by first | decide | omega⟩, ?_⟩⟩⟩⟩⟩
    try (any_goals (exfalso; omega))
    · rw [h2 q3 i (by omega) (by omega)]
      exact next _ (by rw [if_neg q3])
    · exact next _ (by rw [if_pos q4])
/-- through the night -/
theorem sl_24 {o w : Int} {W : zWl} {S : zSk} {v0 : zH} {QX : Nat → zH → Prop} (ho : zco o) (hw : zwo w) (hW : Wok W) (hk : Sok S) {c0 : zCo} (hh0 : cH c0 ≤ 999950) (hc0 : Cok W c0)
    (K : ∀ v' : zH, (∀ b, fK b → b ≠ o → b ≠ o + 1 → b ≠ o + 2 → b ≠ o + 6 → b ≠ o + 8 → v' b = v0 b) → SK v' S → (∀ a : Int, 0 ≤ a → a < wN W → v' (o + 6) a = sMn (fun k => sFk W (sSn S) (kR S) c0 k a) 9) → Q 0 v') :
    ∀ (m : Nat) {i : Nat} {v : zH}, i + m = 9 → (∀ b, fK b → b ≠ o → b ≠ o + 1 → b ≠ o + 2 → b ≠ o + 6 → b ≠ o + 8 → v b = v0 b) → WL v w W → CO v o W (sSt W (sSn S) (kR S) c0 i) → SK v S → (i ≠ 0 → ∀ a : Int, 0 ≤ a → a < wN W → v (o + 6) a = sMn (fun k => sFk W (sSn S) (kR S) c0 k a) i) →
    zJ l G 1 (d + 5) h_Co_sleep k_Co_sleep 115 Q QX 24 [(2, o), (2, w), (2, 5), (3, 0), (0, (i : Int)), (3, 0)] [] v 115
  | 0, i, v, hi, hf, hl, hO, hS, hp => by
    refine zgo ck_Co_sleep 300 24 _ _ _ _ rfl (sg_Co_sleep_24 ?_)
    refine ⟨fun q1 => ?_, fun q2 => ⟨by first | decide | omega, ?_⟩⟩
    try (any_goals (exfalso; omega))
    have e : i = 9 := by omega
    subst e
    exact K v hf hS (hp (by omega))
  | m + 1, i, v, hi, hf, hl, hO, hS, hp => by
    have z0 := (zco_f ho).1
    have hc := Cok_st (sn := sSn S) (rn := kR S) snOk_S hW hc0 i (by omega)
    refine zgo ck_Co_sleep 300 24 _ _ _ _ rfl (sg_Co_sleep_24 ?_)
    refine ⟨fun q1 => ?_, fun q2 => ⟨by first | decide | omega, ?_⟩⟩
    try (any_goals (exfalso; omega))
    refine c_Co_step ho hw hW hl hc hO hk hS (fun v1 g1 g2 g3 g4 => ?_)
    refine sl_33 ho hw hW (Fr_WL ho hw g1 hl) (p := i) (by omega) g4 (g := fun a => sMn (fun k => sFk W (sSn S) (kR S) c0 k a) i) (fun v2 r1 r2 => ?_) (wN W).toNat (by omega) (by have := hW.2.2.2.1; omega) (fun _ _ => rfl) (fun a q1 q2 => absurd q1 (by omega)) (fun q0 a q1 q2 => ?_)
    · refine sl_24 ho hw hW hk hh0 hc0 K m (i := i + 1) (by omega) (fun b q0 qa q1 q2 q6 q8 => by rw [r1 b q6, g1 b q0 qa q1 q2 q8]; exact hf b q0 qa q1 q2 q6 q8) (WL_fr (fun a q1 q2 => r1 a (by omega)) (Fr_WL ho hw g1 hl)) (CO_fr (fun a q => r1 a (by omega)) g3) (SK_fk hk (fun a q1 q2 => r1 a (by omega)) g2) (fun q a q1 q2 => ?_)
      rw [r2 a q1 q2]
      show _ = if i = 0 then sFk W (sSn S) (kR S) c0 0 a else min (sMn (fun k => sFk W (sSn S) (kR S) c0 k a) i) (sFk W (sSn S) (kR S) c0 i a)
      by_cases e : i = 0
      · subst e
        rfl
      · rw [if_neg e, if_neg (by omega)]
        rfl
    · rw [g1 _ (by unfold fK; omega) (by omega) (by omega) (by omega) (by omega)]
      exact hp (by omega) a (by omega) q2
theorem c_Co_sleep {o w : Int} {W : zWl} {S : zSk} {c : zCo} (ho : zco o) (hw : zwo w) (hW : Wok W) (hl : WL v w W) (hc : Cok W c) (hh : cH c ≤ 999900) (hO : CO v o W c) (hk : Sok S) (hS : SK v S)
    (K : ∀ v' : zH, (∀ b, fK b → b ≠ o → b ≠ o + 1 → b ≠ o + 2 → b ≠ o + 6 → b ≠ o + 8 → v' b = v b) → SK v' S → (∀ a : Int, 0 ≤ a → a < wN W → v' (o + 6) a = sNi W (sSn S) (kR S) c a) → Q 0 v') : zC l G 1 (d + 5) h_Co_sleep [(2, o), (2, w), (2, 5)] v 115 Q := by
  have c0 := (zco_f ho).1
  have hb := sWk_b (c := c)
  have hC := hc.1
  refine zC_at ok_Co_sleep ck_Co_sleep rfl rfl (sg_Co_sleep_0 ?_)
  rw [hO.1, ztm hC.1, ztm (by omega)]
  refine ⟨by first | decide | omega, ⟨by first | decide | omega, by first | decide | omega⟩, ⟨by first | decide | omega, by first | decide | omega⟩, ?_⟩
  have ew : (20 - cH c % 24 + 24) % 24 = sWk c := rfl
  rw [ew]
  refine sl_13 ho hw hW hk (by omega) (sWk c).toNat (by omega) (by omega) Fr_rf hl hc (by omega) hO hS (fun v1 g1 g2 g3 => ?_)
  refine sl_24 ho hw hW hk (c0 := sSt W (sSn S) (kR S) c (sWk c).toNat) (by rw [sSt_H]; omega) (Cok_st snOk_S hW hc _ (by omega)) (fun v2 q1 q2 q3 => K v2 (fun b r0 ra r1 r2 r6 r8 => (q1 b r0 ra r1 r2 r6 r8).trans (g1 b r0 ra r1 r2 r8)) q2 q3) 9 (i := 0) rfl (fun _ _ _ _ _ _ _ => rfl) (Fr_WL ho hw g1 hl) g3 g2 (fun q => absurd rfl q)
-- the past
theorem c_Pa_forget {W : zWl} {L : zPa} {I : zIm} (hP : PS v W L I) (K : ∀ v' : zH, (∀ b, b ≠ 42 → v' b = v b) → PS v' W [] (false, I.2.1, I.2.2) → Q 0 v') : zC l G 1 (d + 1) h_Pa_forget [(2, 42)] v 115 Q := by
  obtain ⟨nx, p1, p2, p3, p4, p5, p6, p7⟩ := hP
  refine zC_at ok_Pa_forget ck_Pa_forget rfl rfl (sg_Pa_forget_0 ?_)
  refine ⟨by first | decide | omega, by first | decide | omega, by first | decide | omega, ?_⟩
  refine K _ (fun b q => by rw [zup_a q, zup_a q]) ⟨nx, ?_, p2, ?_, by simp, fun i f e => ?_, ?_, fun e => (by cases e)⟩
  · rw [zup_j (by omega), zup_j (by omega)]
    exact p1
  · rw [zup_j (by omega), zup_s]
    rfl
  · simp at e
  · rw [zup_s]
    rfl
theorem c_Pa_keep {W : zWl} {L : zPa} {I : zIm} {c : zCo} (hW : Wok W) (hP : PS v W L I) (hO : CO v 24 W c) (K : ∀ v' : zH, (∀ b, b ≠ 42 → b ≠ 42 + 1 → v' b = v b) → PS v' W (cW c :: L.take 59) I → Q 0 v') : zC l G 1 (d + 1) h_Pa_keep [(2, 42), (2, 24)] v 115 Q := by
  obtain ⟨nx, p1, p2, p3, p4, p5, p6, p7⟩ := hP
  have hN := hW.2.2.2.1
  have hz : zLN (42 + 1) = 1440 := by decide
  have hz1 : zLN (24 + 1) = 24 := by decide
  have eb : ∀ y x : Int, (zcp v (24 + 1) 0 (42 + 1) y 24) 42 x = v 42 x := fun y x => by rw [zcp_a (by omega)]
  refine zC_at ok_Pa_keep ck_Pa_keep rfl rfl (sg_Pa_keep_0 ?_)
  simp (disch := omega) only [zup_e, zup_ak, zup_j, eb, p1, p3]
  rw [ztm (by omega)]
  refine ⟨by decide, by decide, by decide, ⟨by omega, by omega⟩, ⟨by decide, by decide⟩, ⟨by omega, by omega, by omega, by omega, by omega⟩, by decide, ⟨by omega, by omega⟩, by decide, by decide, ⟨by omega, by omega⟩, by decide, ?_⟩
  refine K _ (fun b q1 q2 => by rw [zup_a q1, zup_a q1, zcp_a q2]) ⟨(nx + 1) % 60, ?_, by omega, ?_, ?_, fun i f e a h1 h2 => ?_, ?_, fun e => ?_⟩
  · rw [zup_j (by omega), zup_s]
  · rw [zup_s, List.length_cons, List.length_take]
    omega
  · rw [List.length_cons, List.length_take]
    omega
  · rw [zup_ak (by omega), zup_ak (by omega)]
    match i, e with
    | 0, e =>
      have e : cW c = f := by simpa using e
      have ei : ((nx + 1) % 60 + 59 - ((0 : Nat) : Int)) % 60 = nx := by omega
      rw [ei, zcp_i (by omega) (by omega), ← e]
      have e0 : 0 + (nx * 24 + a - nx * 24) = a := by omega
      rw [e0]
      exact (hO.2.1 a h1 h2).1
    | i + 1, e =>
      have e : (L.take 59)[i]? = some f := by simpa using e
      have hi : i < 59 := by
        have := (List.getElem?_eq_some_iff.mp e).1
        rw [List.length_take] at this
        omega
      rw [List.getElem?_take_of_lt hi] at e
      have ei : ((nx + 1) % 60 + 59 - ((i + 1 : Nat) : Int)) % 60 = (nx + 59 - (i : Int)) % 60 := by omega
      rw [ei, zcp_x (by omega)]
      exact p5 i f e a h1 h2
  · rw [zup_j (by omega), zup_j (by omega), zcp_a (by omega)]
    exact p6
  · rw [zup_j (by omega), zup_j (by omega), zup_a (by omega), zup_a (by omega), zcp_a (by omega), zcp_a (by omega)]
    exact p7 e
theorem c_Pa_takeBack {W : zWl} {L : zPa} {I : zIm} {c : zCo} (hW : Wok W) (hP : PS v W L I) (hc : Cok W c) (hO : CO v 24 W c) (K0 : L = [] → Q 0 v) (K : ∀ (f : Int → Int) (r : zPa), L = f :: r → ∀ v' : zH, (∀ b, b ≠ 42 → b ≠ 24 → b ≠ 24 + 1 → v' b = v b) → PS v' W r I → CO v' 24 W (cH c - 1, f, cS c, cF c, cU c) → Q 1 v') : zC l G 1 (d + 1) h_Pa_takeBack [(2, 42), (2, 24)] v 115 Q := by
  obtain ⟨nx, p1, p2, p3, p4, p5, p6, p7⟩ := hP
  have hN := hW.2.2.2.1
  have hC := hc.1
  have hz : zLN (42 + 1) = 1440 := by decide
  have hz1 : zLN (24 + 1) = 24 := by decide
  refine zC_at ok_Pa_takeBack ck_Pa_takeBack rfl rfl (sg_Pa_takeBack_0 ?_)
  match L, p3, p4, p5, K with
  | [], p3, p4, p5, K =>
    rw [p3]
    exact ⟨by decide, fun q => absurd rfl q, fun _ => ⟨by decide, K0 rfl⟩⟩
  | f :: r, p3, p4, p5, K =>
    rw [List.length_cons] at p3 p4
    simp (disch := omega) only [zup_e, zup_ak, zup_j, p1, p3]
    rw [ztm (by omega)]
    have eb : ∀ (u : zH) (x y : Int), (zcp u (42 + 1) x (24 + 1) 0 24) 24 y = u 24 y := fun u x y => by rw [zcp_a (by omega)]
    rw [eb, zup_ak (by omega), zup_ak (by omega), hO.1]
    refine ⟨by decide, fun q => ⟨by decide, ⟨by omega, by omega⟩, by decide, by decide, ⟨by omega, by omega⟩, ⟨by omega, by omega⟩, by decide, by decide, by decide, ⟨by omega, by omega⟩, by decide, ⟨by decide, by decide⟩, ⟨by omega, by omega, by omega, by omega, by omega⟩, by decide, ⟨by omega, by omega⟩, by decide, by decide, ?_⟩, fun q => absurd q (by omega)⟩
    refine K f r rfl _ (fun b q1 q2 q3 => by rw [zup_a q2, zcp_a q3, zup_a q1, zup_a q1]) ⟨(nx + 60 - 1) % 60, ?_, by omega, ?_, by omega, fun i g e a h1 h2 => ?_, ?_, fun e => ?_⟩ ⟨zup_e rfl rfl, fun a h1 h2 => ⟨?_, ?_⟩, fun k h1 h2 => ?_⟩
    · rw [zup_ak (by omega), zcp_a (by omega), zup_s]
    · rw [zup_ak (by omega), zcp_a (by omega), zup_j (by omega), zup_s]
      omega
    · rw [zup_ak (by omega), zcp_a (by omega), zup_ak (by omega), zup_ak (by omega)]
      have hi : i < r.length := (List.getElem?_eq_some_iff.mp e).1
      have ei : ((nx + 60 - 1) % 60 + 59 - (i : Int)) % 60 = (nx + 59 - ((i + 1 : Nat) : Int)) % 60 := by omega
      rw [ei]
      exact p5 (i + 1) g (by simpa using e) a h1 h2
    · rw [zup_ak (by omega), zcp_a (by omega), zup_j (by omega), zup_j (by omega)]
      exact p6
    · rw [zup_a (by omega), zup_a (by omega), zcp_a (by omega), zcp_a (by omega), zup_j (by omega), zup_j (by omega), zup_a (by omega), zup_a (by omega)]
      exact p7 e
    · rw [zup_ak (by omega), zcp_i (by omega) (by omega), zup_ak (by omega), zup_ak (by omega)]
      have e0 : (nx + 60 - 1) % 60 * 24 + (a - 0) = (nx + 59 - ((0 : Nat) : Int)) % 60 * 24 + a := by omega
      rw [e0]
      exact p5 0 f (by simp) a h1 h2
    · rw [zup_ak (by omega), zcp_a (by omega), zup_ak (by omega), zup_ak (by omega)]
      exact (hO.2.1 a h1 h2).2
    · rw [zup_ak (by omega), zup_ak (by omega), zcp_a (by omega), zcp_a (by omega), zup_ak (by omega), zup_ak (by omega), zup_ak (by omega), zup_ak (by omega)]
      exact hO.2.2 k h1 h2
theorem c_Pa_draw {W : zWl} {L : zPa} {I : zIm} {c : zCo} (hW : Wok W) (hP : PS v W L I) (hO : CO v 24 W c) (K : ∀ v' : zH, (∀ b, b ≠ 42 → b ≠ 42 + 2 → v' b = v b) → PS v' W L (true, cW c, cH c) → Q 0 v') : zC l G 1 (d + 1) h_Pa_draw [(2, 42), (2, 24)] v 115 Q := by
  obtain ⟨nx, p1, p2, p3, p4, p5, p6, p7⟩ := hP
  have hN := hW.2.2.2.1
  have hz : zLN (42 + 2) = 24 := by decide
  have hz1 : zLN (24 + 1) = 24 := by decide
  refine zC_at ok_Pa_draw ck_Pa_draw rfl rfl (sg_Pa_draw_0 ?_)
  refine ⟨by decide, by decide, ⟨by decide, by decide⟩, ⟨by omega, by omega, by omega, by omega, by omega⟩, by decide, by decide, by decide, by decide, ?_⟩
  rw [zcp_a (by omega), hO.1]
  refine K _ (fun b q1 q2 => by rw [zup_a q1, zup_a q1, zcp_a q2]) ⟨nx, ?_, p2, ?_, p4, fun i f e a h1 h2 => ?_, zup_e rfl rfl, fun _ => ⟨?_, fun a h1 h2 => ?_⟩⟩
  · rw [zup_j (by omega), zup_j (by omega), zcp_a (by omega)]
    exact p1
  · rw [zup_j (by omega), zup_j (by omega), zcp_a (by omega)]
    exact p3
  · rw [zup_ak (by omega), zup_ak (by omega), zcp_a (by omega)]
    exact p5 i f e a h1 h2
  · rw [zup_j (by omega), zup_s]
  · rw [zup_ak (by omega), zup_ak (by omega), zcp_i (by omega) (by omega)]
    have e0 : 0 + (a - 0) = a := by omega
    rw [e0]
    exact (hO.2.1 a h1 h2).1
theorem c_Pa_comeBack {W : zWl} {L : zPa} {I : zIm} {c : zCo} (hW : Wok W) (hP : PS v W L I) (hO : CO v 24 W c) (K0 : I.1 = false → Q 0 v) (K : I.1 = true → ∀ v' : zH, (∀ b, b ≠ 42 → b ≠ 24 → b ≠ 24 + 1 → v' b = v b) → PS v' W [] I → CO v' 24 W (I.2.2, I.2.1, cS c, cF c, cU c) → Q 1 v') : zC l G 1 (d + 1) h_Pa_comeBack [(2, 42), (2, 24)] v 115 Q := by
  obtain ⟨nx, p1, p2, p3, p4, p5, p6, p7⟩ := hP
  have hN := hW.2.2.2.1
  have hz : zLN (42 + 2) = 24 := by decide
  have hz1 : zLN (24 + 1) = 24 := by decide
  refine zC_at ok_Pa_comeBack ck_Pa_comeBack rfl rfl (sg_Pa_comeBack_0 ?_)
  rw [p6]
  by_cases hI : I.1 = true
  · rw [if_pos hI]
    refine ⟨by decide, fun q => ⟨by decide, by decide, ⟨by decide, by decide⟩, ⟨by omega, by omega, by omega, by omega, by omega⟩, by decide, by decide, by decide, by decide, ?_⟩, fun q => absurd q (by omega)⟩
    obtain ⟨q1, q2⟩ := p7 hI
    rw [zcp_a (by omega), q1]
    refine K hI _ (fun b r1 r2 r3 => by rw [zup_a r1, zup_a r2, zcp_a r3]) ⟨nx, ?_, p2, ?_, by simp, fun i f e => ?_, ?_, fun _ => ⟨?_, fun a h1 h2 => ?_⟩⟩ ⟨?_, fun a h1 h2 => ⟨?_, ?_⟩, fun k h1 h2 => ?_⟩
    · rw [zup_j (by omega), zup_ak (by omega), zcp_a (by omega)]
      exact p1
    · rw [zup_s]
      rfl
    · simp at e
    · rw [zup_j (by omega), zup_ak (by omega), zcp_a (by omega)]
      exact p6
    · rw [zup_j (by omega), zup_ak (by omega), zcp_a (by omega)]
      exact q1
    · rw [zup_ak (by omega), zup_ak (by omega), zcp_a (by omega)]
      exact q2 a h1 h2
    · rw [zup_ak (by omega), zup_s]
      rfl
    · rw [zup_ak (by omega), zup_ak (by omega), zcp_i (by omega) (by omega)]
      have e0 : 0 + (a - 0) = a := by omega
      rw [e0]
      exact q2 a h1 h2
    · rw [zup_ak (by omega), zup_ak (by omega), zcp_a (by omega)]
      exact (hO.2.1 a h1 h2).2
    · rw [zup_ak (by omega), zup_ak (by omega), zcp_a (by omega), zup_ak (by omega), zup_ak (by omega), zcp_a (by omega)]
      exact hO.2.2 k h1 h2
  · rw [if_neg hI]
    exact ⟨by decide, fun q => absurd rfl q, fun _ => ⟨by decide, K0 (by simpa using hI)⟩⟩
-- what was touched
theorem c_To_tell {W : zWl} {T : zTo} {a h x : Int} (hT : Tok W T) (hS : TS v T) (K0 : tN T = 20 → Q 0 v) (K : tN T ≠ 20 → ∀ v' : zH, (∀ b, b ≠ 45 → b ≠ 45 + 1 → b ≠ 45 + 2 → b ≠ 45 + 3 → v' b = v b) → TS v' (tN T + 1, upf (tC T) (tN T) a, upf (tH T) (tN T) h, upf (tV T) (tN T) x) → Q 1 v') : zC l G 1 (d + 1) h_To_tell [(2, 45), (0, a), (0, h), (0, x)] v 115 Q := by
  have hz1 : zLN (45 + 1) = 20 := by decide
  have hz2 : zLN (45 + 2) = 20 := by decide
  have hz3 : zLN (45 + 3) = 20 := by decide
  obtain ⟨s1, s2⟩ := hS
  have t1 := hT.1
  refine zC_at ok_To_tell ck_To_tell rfl rfl (sg_To_tell_0 ?_)
  simp (disch := omega) only [zup_e, zup_ak, zup_j, s1]
  refine ⟨by first | decide | omega, ⟨fun q1 => ⟨by first | decide | omega, by first | decide | omega, by first | decide | omega, ⟨by first | decide | omega, by first | decide | omega⟩, by first | decide | omega, by first | decide | omega, by first | decide | omega, ⟨by first | decide | omega, by first | decide | omega⟩, by first | decide | omega, by first | decide | omega, by first | decide | omega, ⟨by first | decide | omega, by first | decide | omega⟩, by first | decide | omega, ⟨by first | decide | omega, by first | decide | omega⟩, by first | decide | omega, by first | decide | omega, ?_⟩, fun q2 => ⟨by first | decide | omega, ?_⟩⟩⟩
  try (any_goals (exfalso; omega))
  · refine K q1 _ (fun b r0 r1 r2 r3 => by rw [zup_a r0, zup_a r3, zup_a r2, zup_a r1]) ⟨zup_e rfl rfl, fun k h1 h2 => ?_⟩
    have h2 : k < tN T + 1 := h2
    show _ = upf (tC T) (tN T) a k ∧ _ = upf (tH T) (tN T) h k ∧ _ = upf (tV T) (tN T) x k
    by_cases e : k = tN T
    · subst e
      simp (disch := omega) only [zup_e, zup_ak, zup_j, upf_s]
      trivial
    · rw [upf_n e, upf_n e, upf_n e]
      simp (disch := omega) only [zup_ak, zup_j]
      exact s2 k h1 (by omega)
  · exact K0 q2
theorem la_loop {W : zWl} {T : zTo} {QX : Nat → zH → Prop} (hT : Tok W T) (hS : TS v T) (K : Q (tLast T) v) : ∀ (m i : Nat), (i : Int) + m = tN T → zJ l G 1 (d + 1) h_To_lastHour k_To_lastHour 115 Q QX 4 [(2, 45), (0, fd (fun m k => max m (tH T k)) 0 i), (0, (i : Int))] [] v 115
  | 0, i, hi => by
    refine zgo ck_To_lastHour 300 4 _ _ _ _ rfl (sg_To_lastHour_4 ?_)
    rw [hS.1]
    refine ⟨by first | decide | omega, ⟨fun q1 => ?_, fun q2 => ⟨by first | decide | omega, by first | decide | omega, ⟨by first | decide | omega, by first | decide | omega⟩, ⟨by first | decide | omega, by first | decide | omega⟩, ?_⟩⟩⟩
    try (any_goals (exfalso; omega))
    have e : i = (tN T).toNat := by omega
    rw [e]
    exact K
  | m + 1, i, hi => by
    have hz2 : zLN (45 + 2) = 20 := by decide
    have t1 := hT.1
    refine zgo ck_To_lastHour 300 4 _ _ _ _ rfl (sg_To_lastHour_4 ?_)
    rw [hS.1, (hS.2 i (by omega) (by omega)).2.1]
    refine ⟨by first | decide | omega, ⟨fun q1 => ?_, fun q2 => ⟨by first | decide | omega, by first | decide | omega, ⟨by first | decide | omega, by first | decide | omega⟩, ⟨by first | decide | omega, by first | decide | omega⟩, ?_⟩⟩⟩
    try (any_goals (exfalso; omega))
    exact la_loop hT hS K m (i + 1) (by omega)
theorem c_To_lastHour {W : zWl} {T : zTo} (hT : Tok W T) (hS : TS v T) (K : Q (tLast T) v) : zC l G 1 (d + 1) h_To_lastHour [(2, 45)] v 115 Q := by
  refine zC_at ok_To_lastHour ck_To_lastHour rfl rfl (sg_To_lastHour_0 ?_)
  exact la_loop hT hS K (tN T).toNat 0 (by have := hT.1; omega)
theorem tLast_b {W : zWl} {T : zTo} (hT : Tok W T) : 0 ≤ tLast T ∧ tLast T ≤ 48 := by
  have : ∀ n : Nat, (n : Int) ≤ tN T → 0 ≤ fd (fun m k => max m (tH T k)) 0 n ∧ fd (fun m k => max m (tH T k)) 0 n ≤ 48 := by
    intro n
    induction n with
    | zero => intro _; show (0 : Int) ≤ 0 ∧ (0 : Int) ≤ 48; omega
    | succ n ih =>
      intro h
      have h1 := ih (by omega)
      have h2 := (hT.2 n (by omega) (by omega)).2.1
      rw [fd_s]
      omega
  exact this _ (by have := hT.1; omega)
theorem al_loop {W : zWl} {T : zTo} {h : Int} {f : Int → Int} {b : Int} {QX : Nat → zH → Prop} (hW : Wok W) (hT : Tok W T) (hS : TS v T) (hb : zCL b = 20 ∧ zLN b = 24) (hf : ∀ a : Int, 0 ≤ a → a < wN W → v b a = f a) (K : Q (if tAl T h f then 1 else 0) v) : ∀ (m i : Nat), (i : Int) + m = tN T → zal (tAl1 T h f) i = true → zJ l G 1 (d + 1) h_To_allowAt k_To_allowAt 115 Q QX 2 [(2, 45), (0, h), (2, b), (0, (i : Int)), (3, 0)] [] v 115
  | 0, i, hi, ha => by
    refine zgo ck_To_allowAt 300 2 _ _ _ _ rfl (sg_To_allowAt_2 ?_)
    rw [hS.1]
    have e : i = (tN T).toNat := by omega
    rw [e] at ha
    unfold tAl at K
    rw [if_pos ha] at K
    refine ⟨by first | decide | omega, ⟨fun q1 => ⟨by first | decide | omega, ?_⟩, fun q2 => ⟨by first | decide | omega, by first | decide | omega, ⟨by first | decide | omega, by first | decide | omega⟩, by first | decide | omega, by first | decide | omega, ⟨by first | decide | omega, by first | decide | omega⟩, ⟨fun q3 => ⟨⟨by first | decide | omega, by first | decide | omega⟩, ?_⟩, fun q4 => ⟨by first | decide | omega, ⟨fun q5 => ⟨by first | decide | omega, ?_⟩, fun q6 => ⟨by first | decide | omega, ⟨by first | decide | omega, by first | decide | omega⟩, by first | decide | omega, by first | decide | omega, ⟨by first | decide | omega, by first | decide | omega⟩, ⟨fun q7 => ⟨⟨by first | decide | omega, by first | decide | omega⟩, ?_⟩, fun q8 => ⟨by first | decide | omega, ?_⟩⟩⟩⟩⟩⟩⟩⟩⟩
    try (any_goals (exfalso; omega))
    exact K
  | m + 1, i, hi, ha => by
    have hz1 : zLN (45 + 1) = 20 := by decide
    have hz2 : zLN (45 + 2) = 20 := by decide
    have hz3 : zLN (45 + 3) = 20 := by decide
    have t1 := hT.1
    have hN := hW.2.2.2.1
    obtain ⟨u1, u2, u3⟩ := hT.2 i (by omega) (by omega)
    obtain ⟨e1, e2, e3⟩ := hS.2 i (by omega) (by omega)
    obtain ⟨b1, b2⟩ := hb
    have next : tAl1 T h f i = true → zJ l G 1 (d + 1) h_To_allowAt k_To_allowAt 115 Q QX 2 [(2, 45), (0, h), (2, b), (0, (i : Int) + 1), (3, 0)] [] v 115 := by
      intro h1
      refine al_loop hW hT hS ⟨b1, b2⟩ hf K m (i + 1) (by omega) ?_
      show (zal (tAl1 T h f) i && tAl1 T h f i) = true
      rw [ha, h1]
      rfl
    have stop : tAl1 T h f i = false → Q 0 v := by
      intro h1
      have : ¬ tAl T h f = true := by
        unfold tAl
        rw [zal_iff]
        intro q
        have := q i (by omega) (by omega)
        rw [h1] at this
        cases this
      rw [if_neg this] at K
      exact K
    refine zgo ck_To_allowAt 300 2 _ _ _ _ rfl (sg_To_allowAt_2 ?_)
    rw [hS.1, e1, e2, e3, hf _ u1.1 u1.2]
    refine ⟨by first | decide | omega, ⟨fun q1 => ⟨by first | decide | omega, ?_⟩, fun q2 => ⟨by first | decide | omega, by first | decide | omega, ⟨by first | decide | omega, by first | decide | omega⟩, by first | decide | omega, by first | decide | omega, ⟨by first | decide | omega, by first | decide | omega⟩, ⟨fun q3 => ⟨⟨by first | decide | omega, by first | decide | omega⟩, ?_⟩, fun q4 => ⟨by first | decide | omega, ⟨fun q5 => ⟨by first | decide | omega, ?_⟩, fun q6 => ⟨by first | decide | omega, ⟨by first | decide | omega, by first | decide | omega⟩, by first | decide | omega, by first | decide | omega, ⟨by first | decide | omega, by first | decide | omega⟩, ⟨fun q7 => ⟨⟨by first | decide | omega, by first | decide | omega⟩, ?_⟩, fun q8 => ⟨by first | decide | omega, ?_⟩⟩⟩⟩⟩⟩⟩⟩⟩
    try (any_goals (exfalso; omega))
    · refine next ?_
      unfold tAl1
      simp [q3]
    · refine next ?_
      unfold tAl1
      simp [q7]
    · refine stop ?_
      unfold tAl1
      simp [q4, q8]
theorem c_To_allowAt {W : zWl} {T : zTo} {h : Int} {f : Int → Int} {b : Int} (hW : Wok W) (hT : Tok W T) (hS : TS v T) (hb : zCL b = 20 ∧ zLN b = 24) (hf : ∀ a : Int, 0 ≤ a → a < wN W → v b a = f a) (K : Q (if tAl T h f then 1 else 0) v) : zC l G 1 (d + 1) h_To_allowAt [(2, 45), (0, h), (2, b)] v 115 Q := by
  refine zC_at ok_To_allowAt ck_To_allowAt rfl rfl (sg_To_allowAt_0 ?_)
  exact al_loop hW hT hS hb hf K (tN T).toNat 0 (by have := hT.1; omega) rfl
end
