/-! THE REFERENCE: questions D: a stone laid and taken back; changed -/
theorem sFk_c {W : zWl} {S : zSk} {c : zCo} (hW : Wok W) (hc : Cok W c) (hh : cH c ≤ 900000) {n : Nat} (hn : n ≤ 72) {a : Int} (ha : isc (wR W) (wC W) a = true) : 0 ≤ sFk W (sSn S) (kR S) c n (ixn (wC W) a) ∧ sFk W (sSn S) (kR S) c n (ixn (wC W) a) ≤ 4000 := by
  have h36 := is36 hW ha
  exact sFk_b snOk_S hW hc (by omega) h36.2.2.1 h36.2.2.2
section
variable {l : Launch} {G : zG} {d : Nat} {v : zH} {Q : Int → zH → Prop} {W : zWl} {c : zCo} {S : zSk}
theorem c_M_lay {a s : Int} (hQ : QM v W c S) (ha : isc (wR W) (wC W) a = true) (hs : 0 ≤ s ∧ s < wS W) (K : ∀ v' : zH, Fz v v' → v' 77 49 = cS c (ixn (wC W) a) → v' 77 50 = cW c (ixn (wC W) a) → (∀ b : Int, b ≠ 77 → b ≠ 96 → b ≠ 97 → v' b = v b) → QM v' W (sChg W c (ixn (wC W) a) s) S → Q 0 v') : zC l G 1 (d + 2) h_M_lay [(2, 77), (0, a), (0, s)] v 115 Q := by
  obtain ⟨hW, hM, hc, hO, hk, hS⟩ := id hQ.1
  have h36 := is36 hW ha
  have h4 := hW.2.2.2.2.2.2.1
  obtain ⟨e97, e96⟩ := hO.2.1 a ha
  have e93 := hM.2.2.2.2.2.1 (3 * s + 1) (by omega) (by omega)
  refine zC_at ok_M_lay ck_M_lay rfl rfl (sg_M_lay_0 ?_)
  try simp (disch := omega) only [zup_e, zup_ak, zup_j, Int.zero_add, Int.reduceAdd, mz78, mz79, mz80, mz81, mz82, mz83, mz84, mz85, mz86, mz87, mz88, mz89, mz90, mz91, mz92, mz93, mz94, mz95, mz96, mz97, mz98, mz99, mz100, mz101, mz102, mz103, mz104, mz105, mz106, mz107, mz108, mz109, mz110, mz111, mz112, mz113]
  refine ⟨by first | decide | omega | contradiction | exact absurd trivial (by assumption), by first | decide | omega | contradiction | exact absurd trivial (by assumption), ⟨by first | decide | omega | contradiction | exact absurd trivial (by assumption), by first | decide | omega | contradiction | exact absurd trivial (by assumption)⟩, by first | decide | omega | contradiction | exact absurd trivial (by assumption), by first | decide | omega | contradiction | exact absurd trivial (by assumption), by first | decide | omega | contradiction | exact absurd trivial (by assumption), ⟨by first | decide | omega | contradiction | exact absurd trivial (by assumption), by first | decide | omega | contradiction | exact absurd trivial (by assumption)⟩, by first | decide | omega | contradiction | exact absurd trivial (by assumption), by first | decide | omega | contradiction | exact absurd trivial (by assumption), by first | decide | omega | contradiction | exact absurd trivial (by assumption), ⟨by first | decide | omega | contradiction | exact absurd trivial (by assumption), by first | decide | omega | contradiction | exact absurd trivial (by assumption)⟩, by first | decide | omega | contradiction | exact absurd trivial (by assumption), by first | decide | omega | contradiction | exact absurd trivial (by assumption), by first | decide | omega | contradiction | exact absurd trivial (by assumption), ⟨by first | decide | omega | contradiction | exact absurd trivial (by assumption), by first | decide | omega | contradiction | exact absurd trivial (by assumption)⟩, by first | decide | omega | contradiction | exact absurd trivial (by assumption), ?_⟩
  refine c_M_ofStone (c := a) (s := s) (k := 1) (by omega) (by simp (disch := omega) only [zup_s, zup_j, zup_ak]) (by omega) (by omega) ?_
  show _
  simp (disch := omega) only [zup_ak, e93, e97, e96]
  refine ⟨by first | decide | omega | contradiction | exact absurd trivial (by assumption), ⟨by first | decide | omega | contradiction | exact absurd trivial (by assumption), by first | decide | omega | contradiction | exact absurd trivial (by assumption)⟩, ?_⟩
  have hFb : ∀ b : Int, b ≠ 77 → b ≠ 96 → b ≠ 97 → ∀ x y z : Int, (zupd (zupd (zupd (zupd v 77 49 x) 77 50 y) 96 a s) 97 a z) b = v b := fun b b1 b2 b3 x y z => by rw [zup_a b3, zup_a b2, zup_a b1, zup_a b1]
  have hFk : ∀ k : Int, k ≠ 49 → k ≠ 50 → ∀ x y z : Int, (zupd (zupd (zupd (zupd v 77 49 x) 77 50 y) 96 a s) 97 a z) 77 k = v 77 k := fun k b1 b2 x y z => by rw [zup_ak (by omega), zup_ak (by omega), zup_j b2, zup_j b1]
  refine K _ ⟨fun b q => hFb b (by omega) (by omega) (by omega) _ _ _, fun k _ _ _ _ q1' q2' => hFk k q1' q2' _ _ _⟩ ?_ ?_ (fun b b1 b2 b3 => hFb b b1 b2 b3 _ _ _) ⟨⟨hW, MW_fr (fun j _ _ => hFk j (by omega) (by omega) _ _ _) (hFb 93 (by omega) (by omega) (by omega) _ _ _) (fun o _ _ => by rw [hFb 94 (by omega) (by omega) (by omega) _ _ _]; exact ⟨rfl, rfl, rfl⟩) (hFb 95 (by omega) (by omega) (by omega) _ _ _) hM, Cok_chg hW hc hs, ⟨?_, fun b hb => ?_, ?_⟩, hk, MS_fr ⟨hFk 13 (by omega) (by omega) _ _ _, hFk 37 (by omega) (by omega) _ _ _, hFk 38 (by omega) (by omega) _ _ _⟩ (hFb 79 (by omega) (by omega) (by omega) _ _ _) (hFb 80 (by omega) (by omega) (by omega) _ _ _) (hFb 82 (by omega) (by omega) (by omega) _ _ _) (hFb 83 (by omega) (by omega) (by omega) _ _ _) (hFb 84 (by omega) (by omega) (by omega) _ _ _) (hFb 85 (by omega) (by omega) (by omega) _ _ _) hS⟩, ?_, hQ.2.2⟩
  · rw [zup_ak (by omega), zup_ak (by omega), zup_j (by omega), zup_s]
  · rw [zup_ak (by omega), zup_ak (by omega), zup_s]
  · rw [hFk 36 (by omega) (by omega)]; exact hO.1
  · have x4 := (gE hW.1.2 hW.2.1 ha).2.2.2.2.1
    have y4 := (gE hW.1.2 hW.2.1 hb).2.2.2.2.1
    show _ = upf (cW c) (ixn (wC W) a) (min (cW c (ixn (wC W) a)) (wT W (3 * s + 1))) (ixn (wC W) b) ∧ _ = upf (cS c) (ixn (wC W) a) s (ixn (wC W) b)
    by_cases e : b = a
    · subst e
      rw [upf_s, upf_s, zup_s, zup_ak (by omega), zup_s]
      exact ⟨rfl, rfl⟩
    · have : ¬ ixn (wC W) b = ixn (wC W) a := fun q => e (by rw [← y4, q, x4])
      rw [upf_n this, upf_n this, zup_j e, zup_ak (by omega), zup_ak (by omega), zup_ak (by omega), zup_ak (by omega), zup_j e, zup_ak (by omega), zup_ak (by omega)]
      exact hO.2.1 b hb
  · rw [hFk 39 (by omega) (by omega), hFb 94 (by omega) (by omega) (by omega)]; exact hO.2.2
  · rw [hFk 39 (by omega) (by omega)]; exact hQ.2.1
theorem c_M_layBack {a s0 : Int} (hc : Cok W c) (hQ : QM v W (sChg W c (ixn (wC W) a) s0) S) (ha : isc (wR W) (wC W) a = true) (K : ∀ v' : zH, (∀ b : Int, b ≠ 96 → b ≠ 97 → v' b = v b) → QM v' W c S → Q 0 v') : zC l G 1 (d + 1) h_M_layBack [(2, 77), (0, a), (0, cS c (ixn (wC W) a)), (0, cW c (ixn (wC W) a))] v 115 Q := by
  obtain ⟨hW, hM, hc1, hO, hk, hS⟩ := id hQ.1
  have h36 := is36 hW ha
  refine zC_at ok_M_layBack ck_M_layBack rfl rfl (sg_M_layBack_0 ?_)
  try simp (disch := omega) only [zup_e, zup_ak, zup_j, Int.zero_add, Int.reduceAdd, mz78, mz79, mz80, mz81, mz82, mz83, mz84, mz85, mz86, mz87, mz88, mz89, mz90, mz91, mz92, mz93, mz94, mz95, mz96, mz97, mz98, mz99, mz100, mz101, mz102, mz103, mz104, mz105, mz106, mz107, mz108, mz109, mz110, mz111, mz112, mz113]
  refine ⟨by first | decide | omega | contradiction | exact absurd trivial (by assumption), by first | decide | omega | contradiction | exact absurd trivial (by assumption), ⟨by first | decide | omega | contradiction | exact absurd trivial (by assumption), by first | decide | omega | contradiction | exact absurd trivial (by assumption)⟩, by first | decide | omega | contradiction | exact absurd trivial (by assumption), by first | decide | omega | contradiction | exact absurd trivial (by assumption), ⟨by first | decide | omega | contradiction | exact absurd trivial (by assumption), by first | decide | omega | contradiction | exact absurd trivial (by assumption)⟩, ?_⟩
  have hF : ∀ b : Int, b ≠ 96 → b ≠ 97 → (zupd (zupd v 96 a (cS c (ixn (wC W) a))) 97 a (cW c (ixn (wC W) a))) b = v b := fun b b1 b2 => by rw [zup_a b2, zup_a b1]
  refine K _ hF ⟨⟨hW, MW_fr (fun j _ _ => by rw [hF 77 (by omega) (by omega)]) (hF 93 (by omega) (by omega)) (fun o _ _ => by rw [hF 94 (by omega) (by omega)]; exact ⟨rfl, rfl, rfl⟩) (hF 95 (by omega) (by omega)) hM, hc, ⟨?_, fun b hb => ?_, ?_⟩, hk, MS_fr ⟨by rw [hF 77 (by omega) (by omega)], by rw [hF 77 (by omega) (by omega)], by rw [hF 77 (by omega) (by omega)]⟩ (hF 79 (by omega) (by omega)) (hF 80 (by omega) (by omega)) (hF 82 (by omega) (by omega)) (hF 83 (by omega) (by omega)) (hF 84 (by omega) (by omega)) (hF 85 (by omega) (by omega)) hS⟩, by rw [hF 77 (by omega) (by omega)]; exact hQ.2.1, hQ.2.2⟩
  · rw [hF 77 (by omega) (by omega)]; exact hO.1
  · have x4 := (gE hW.1.2 hW.2.1 ha).2.2.2.2.1
    have y4 := (gE hW.1.2 hW.2.1 hb).2.2.2.2.1
    by_cases e : b = a
    · subst e
      rw [zup_s, zup_ak (by omega), zup_s]
      exact ⟨rfl, rfl⟩
    · have : ¬ ixn (wC W) b = ixn (wC W) a := fun q => e (by rw [← y4, q, x4])
      rw [zup_j e, zup_ak (by omega), zup_ak (by omega), zup_j e]
      have h := hO.2.1 b hb
      have h : v 97 b = upf (cW c) (ixn (wC W) a) (min (cW c (ixn (wC W) a)) (wT W (3 * s0 + 1))) (ixn (wC W) b) ∧ v 96 b = upf (cS c) (ixn (wC W) a) s0 (ixn (wC W) b) := h
      rw [upf_n this, upf_n this] at h
      exact h
  · rw [hF 77 (by omega) (by omega), hF 94 (by omega) (by omega)]; exact hO.2.2
theorem c_M_feltAt {a : Int} {n : Nat} (hQ : QM v W c S) (ha : isc (wR W) (wC W) a = true) (hn : 1 ≤ n ∧ n ≤ 72) (K : ∀ v' : zH, Fz v v' → QM v' W c S → Q (sFk W (sSn S) (kR S) c (n - 1) (ixn (wC W) a)) v') : zC l G 1 (d + 8) h_M_feltAt [(2, 77), (0, a), (0, (n : Int))] v 115 Q := by
  obtain ⟨hW, hM, hc, -⟩ := id hQ.1
  have hh := hQ.2.2
  have h36 := is36 hW ha
  refine zC_at ok_M_feltAt ck_M_feltAt rfl rfl (sg_M_feltAt_0 ?_)
  try simp (disch := omega) only [zup_e, zup_ak, zup_j, Int.zero_add, Int.reduceAdd, mz78, mz79, mz80, mz81, mz82, mz83, mz84, mz85, mz86, mz87, mz88, mz89, mz90, mz91, mz92, mz93, mz94, mz95, mz96, mz97, mz98, mz99, mz100, mz101, mz102, mz103, mz104, mz105, mz106, mz107, mz108, mz109, mz110, mz111, mz112, mz113]
  refine ⟨by first | decide | omega | contradiction | exact absurd trivial (by assumption), ?_⟩
  refine m_pa hQ.1 (fun v1 g1 => ?_)
  refine ⟨by first | decide | omega | contradiction | exact absurd trivial (by assumption), ?_⟩
  refine c_M_passAll g1.2.1 (by have : cH (sSt W (sSn S) (kR S) c 0) = cH c := rfl; omega) (by omega) (fun v2 f1 f2 f3 => ?_)
  have f2 : MQc v2 W (sSt W (sSn S) (kR S) c n) S := f2
  have g2 : MH v v2 W c S n := ⟨Fz_tr g1.1 (Fz_p f1), f2, MA_p f1 g1.2.2.1, (f1.2 39 (by omega)).trans g1.2.2.2.1, by rw [f1.1 94 (by omega) (by omega) (by omega) (by omega) (by omega) (by omega) (by omega)]; exact g1.2.2.2.2.1, by rw [f1.1 96 (by omega) (by omega) (by omega) (by omega) (by omega) (by omega) (by omega)]; exact g1.2.2.2.2.2⟩
  refine ⟨by first | decide | omega | contradiction | exact absurd trivial (by assumption), ?_⟩
  refine m_qtb hQ g2 (fun v3 y1 y2 y3 => ?_)
  refine ⟨by first | decide | omega | contradiction | exact absurd trivial (by assumption), by first | decide | omega | contradiction | exact absurd trivial (by assumption), ⟨by first | decide | omega | contradiction | exact absurd trivial (by assumption), by first | decide | omega | contradiction | exact absurd trivial (by assumption)⟩, ?_⟩
  have e : v3 100 a = sFk W (sSn S) (kR S) c (n - 1) (ixn (wC W) a) := by
    rw [y3 100 (by omega) (by omega)]
    exact f3 hn.1 a ha
  rw [e]
  exact K v3 y1 y2
-- changed
def mP (p : Int × Int) : Int := if p.1 = -1 then 0 else p.2
def Pok (p : Int × Int) : Prop := (p.1 = -1 → p.2 = -1) ∧ (p.1 ≠ -1 → 0 ≤ p.2)
def mCh (W : zWl) (S : zSk) (c : zCo) (a : Int) (n : Nat) (i : Nat) : Int × Int := fd (fun p o => if isc (wR W) (wC W) o = true then sCh2 W S c a n p (ixn (wC W) o) (wS W).toNat else p) (-1, -1) i
theorem mCh_s {a : Int} {n i : Nat} : mCh W S c a n (i + 1) = if isc (wR W) (wC W) i = true then sCh2 W S c a n (mCh W S c a n i) (ixn (wC W) i) (wS W).toNat else mCh W S c a n i := rfl
theorem mCh_36 {a : Int} {n : Nat} (hW : Wok W) : mCh W S c a n 36 = sCh1 W S c a n (wN W).toNat := by
  unfold mCh
  rw [fd_nm (g := fun p x => sCh2 W S c a n p x (wS W).toNat) hW.1 hW.2.1, ← hW.2.2.1]
  rfl
theorem sCh2_s {a : Int} {n : Nat} {p : Int × Int} {b : Int} {m : Nat} : sCh2 W S c a n p b (m + 1) = if (sCh2 W S c a n p b m).2 < sChF W S c a n b m then (10 * nmi (wC W) b + m, sChF W S c a n b m) else sCh2 W S c a n p b m := rfl
theorem chF_m {a b : Int} {n : Nat} {s : Int} (hQ : QM v W c S) (hn : 1 ≤ n ∧ n ≤ 72) (ha : isc (wR W) (wC W) a = true) (hs : 0 ≤ s ∧ s < wS W) : 0 ≤ sChF W S c (ixn (wC W) a) n b s ∧ sChF W S c (ixn (wC W) a) n b s ≤ 4000 :=
  sFk_c (c := sChg W c b s) hQ.1.1 (Cok_chg hQ.1.1 hQ.1.2.2.1 hs) hQ.2.2 (by omega) ha
theorem chg_26 {n : Nat} {a k : Int} {o : Nat} {p0 : Int × Int} {v0 : zH} {QX : Nat → zH → Prop} (hn : 1 ≤ n ∧ n ≤ 72) (ha : isc (wR W) (wC W) a = true) (ho : isc (wR W) (wC W) o = true)
    (K : ∀ v' : zH, Fz v0 v' → QM v' W c S → Pok (sCh2 W S c (ixn (wC W) a) n p0 (ixn (wC W) o) (wS W).toNat) → (sCh2 W S c (ixn (wC W) a) n p0 (ixn (wC W) o) (wS W).toNat).1 ≠ -1 → zJ l G 1 (d + 9) h_M_changed k_M_changed 115 Q QX 21 [(2, 77), (0, a), (0, (n : Int)), (0, k), (0, (sCh2 W S c (ixn (wC W) a) n p0 (ixn (wC W) o) (wS W).toNat).1), (0, mP (sCh2 W S c (ixn (wC W) a) n p0 (ixn (wC W) o) (wS W).toNat)), (0, (o : Int) + 1), (3, 0), (3, 0), (3, 0), (3, 0)] [] v' 115) :
    ∀ (m j : Nat) {v : zH}, (j : Int) + m = wS W → Pok (sCh2 W S c (ixn (wC W) a) n p0 (ixn (wC W) o) j) → (1 ≤ j → (sCh2 W S c (ixn (wC W) a) n p0 (ixn (wC W) o) j).1 ≠ -1) → Fz v0 v → QM v W c S → zJ l G 1 (d + 9) h_M_changed k_M_changed 115 Q QX 26 [(2, 77), (0, a), (0, (n : Int)), (0, k), (0, (sCh2 W S c (ixn (wC W) a) n p0 (ixn (wC W) o) j).1), (0, mP (sCh2 W S c (ixn (wC W) a) n p0 (ixn (wC W) o) j)), (0, (o : Int)), (0, (j : Int)), (3, 0), (3, 0), (3, 0)] [] v 115
  | m, j, v, hj, hp, h1, hF, hQ => by
    obtain ⟨hW, hM, hc, -⟩ := id hQ.1
    have h36 := is36 hW ho
    have h4 := hW.2.2.2.2.2.2.1
    have x4 := (gE hW.1.2 hW.2.1 ho).2.2.2.2.1
    have hR := W_R1 hW ho
    have hw1 := hW.2.2.2.2.1 (by omega)
    match m, hj with
    | 0, hj =>
      have e : j = (wS W).toNat := by omega
      have K := K v hF hQ
      rw [← e] at K
      have K := K hp (h1 (by omega))
      refine zgo ck_M_changed 300 26 _ _ _ _ rfl (sg_M_changed_26 ?_)
      try simp (disch := omega) only [zup_e, zup_ak, zup_j, Int.zero_add, Int.reduceAdd, mz78, mz79, mz80, mz81, mz82, mz83, mz84, mz85, mz86, mz87, mz88, mz89, mz90, mz91, mz92, mz93, mz94, mz95, mz96, mz97, mz98, mz99, mz100, mz101, mz102, mz103, mz104, mz105, mz106, mz107, mz108, mz109, mz110, mz111, mz112, mz113, hM.1]
      refine ⟨by first | decide | omega | contradiction | exact absurd trivial (by assumption), ⟨fun q1 => ⟨⟨by first | decide | omega | contradiction | exact absurd trivial (by assumption), by first | decide | omega | contradiction | exact absurd trivial (by assumption)⟩, ?_⟩, fun q2 => ⟨by first | decide | omega | contradiction | exact absurd trivial (by assumption), ?_⟩⟩⟩
      try (any_goals (exfalso; first | omega | exact absurd trivial (by assumption)))
      exact K
    | m + 1, hj =>
      have hf := chF_m (b := ixn (wC W) o) (s := (j : Int)) hQ hn ha (by omega)
      have g := fun {v : zH} => chg_26 (v := v) (QX := QX) hn ha ho K m (j + 1) (by omega)
      rw [sCh2_s, x4] at g
      have eF : sFk W (sSn S) (kR S) (sChg W c (ixn (wC W) o) j) (n - 1) (ixn (wC W) a) = sChF W S c (ixn (wC W) a) n (ixn (wC W) o) j := rfl
      generalize sCh2 W S c (ixn (wC W) a) n p0 (ixn (wC W) o) j = p at g hp h1 ⊢
      have take : p.2 < sChF W S c (ixn (wC W) a) n (ixn (wC W) o) j → ∀ {v : zH}, Fz v0 v → QM v W c S → zJ l G 1 (d + 9) h_M_changed k_M_changed 115 Q QX 26 [(2, 77), (0, a), (0, (n : Int)), (0, k), (0, 10 * (o : Int) + j), (0, sChF W S c (ixn (wC W) a) n (ixn (wC W) o) j), (0, (o : Int)), (0, (j : Int) + 1), (3, 0), (3, 0), (3, 0)] [] v 115 := fun q {v} z1 z2 => by
        rw [if_pos q] at g
        have k := g (v := v) ⟨fun e => by simp only at e; omega, fun _ => hf.1⟩ (fun _ e => by simp only at e; omega) z1 z2
        unfold mP at k
        rw [if_neg (fun e => by simp only at e; omega)] at k
        exact k
      have keep : ¬ p.2 < sChF W S c (ixn (wC W) a) n (ixn (wC W) o) j → p.1 ≠ -1 → ∀ {v : zH}, Fz v0 v → QM v W c S → zJ l G 1 (d + 9) h_M_changed k_M_changed 115 Q QX 26 [(2, 77), (0, a), (0, (n : Int)), (0, k), (0, p.1), (0, p.2), (0, (o : Int)), (0, (j : Int) + 1), (3, 0), (3, 0), (3, 0)] [] v 115 := fun q q' {v} z1 z2 => by
        rw [if_neg q] at g
        have k := g (v := v) hp (fun _ => q') z1 z2
        unfold mP at k
        rw [if_neg q'] at k
        exact k
      refine zgo ck_M_changed 300 26 _ _ _ _ rfl (sg_M_changed_26 ?_)
      try simp (disch := omega) only [zup_e, zup_ak, zup_j, Int.zero_add, Int.reduceAdd, mz78, mz79, mz80, mz81, mz82, mz83, mz84, mz85, mz86, mz87, mz88, mz89, mz90, mz91, mz92, mz93, mz94, mz95, mz96, mz97, mz98, mz99, mz100, mz101, mz102, mz103, mz104, mz105, mz106, mz107, mz108, mz109, mz110, mz111, mz112, mz113, hM.1]
      refine ⟨by first | decide | omega | contradiction | exact absurd trivial (by assumption), ⟨fun q1 => ⟨⟨by first | decide | omega | contradiction | exact absurd trivial (by assumption), by first | decide | omega | contradiction | exact absurd trivial (by assumption)⟩, ?_⟩, fun q2 => ⟨by first | decide | omega | contradiction | exact absurd trivial (by assumption), ?_⟩⟩⟩
      try (any_goals (exfalso; first | omega | exact absurd trivial (by assumption)))
      refine m_cell hM ?_
      rw [if_pos ho]
      refine ⟨fun q1 => ⟨⟨by first | decide | omega | contradiction | exact absurd trivial (by assumption), by first | decide | omega | contradiction | exact absurd trivial (by assumption)⟩, ?_⟩, fun q2 => ⟨by first | decide | omega | contradiction | exact absurd trivial (by assumption), ?_⟩⟩
      try (any_goals (exfalso; first | omega | exact absurd trivial (by assumption)))
      refine c_M_lay hQ ho (s := (j : Int)) (by omega) (fun v1 f1 f2 f3 f4 f5 => ?_)
      refine ⟨by first | decide | omega | contradiction | exact absurd trivial (by assumption), by first | decide | omega | contradiction | exact absurd trivial (by assumption), by first | decide | omega | contradiction | exact absurd trivial (by assumption), ?_⟩
      try (any_goals (exfalso; first | omega | exact absurd trivial (by assumption)))
      refine c_M_feltAt f5 ha hn (fun v2 g1 g2 => ?_)
      rw [eF]
      show _
      simp only [f2, f3]
      refine ⟨by first | decide | omega | contradiction | exact absurd trivial (by assumption), ?_⟩
      try (any_goals (exfalso; first | omega | exact absurd trivial (by assumption)))
      refine c_M_layBack hc g2 ho (fun v3 e1 e2 => ?_)
      have hF3 : Fz v0 v3 := Fz_tr hF (Fz_tr f1 (Fz_tr g1 ⟨fun b q => e1 b (by omega) (by omega), fun k _ _ _ _ _ _ => by rw [e1 77 (by omega) (by omega)]⟩))
      by_cases hp1 : p.1 = -1
      · have k0 := take (by have := hp.1 hp1; omega) hF3 e2
        have em : mP p = 0 := by unfold mP; rw [if_pos hp1]
        refine ⟨fun q1 => ⟨⟨by first | decide | omega | contradiction | exact absurd trivial (by assumption), by first | decide | omega | contradiction | exact absurd trivial (by assumption)⟩, ⟨by first | decide | omega | contradiction | exact absurd trivial (by assumption), by first | decide | omega | contradiction | exact absurd trivial (by assumption)⟩, ⟨by first | decide | omega | contradiction | exact absurd trivial (by assumption), by first | decide | omega | contradiction | exact absurd trivial (by assumption)⟩, ?_⟩, fun q2 => ⟨fun q3 => ⟨⟨by first | decide | omega | contradiction | exact absurd trivial (by assumption), by first | decide | omega | contradiction | exact absurd trivial (by assumption)⟩, ?_⟩, fun q4 => ⟨⟨by first | decide | omega | contradiction | exact absurd trivial (by assumption), by first | decide | omega | contradiction | exact absurd trivial (by assumption)⟩, ⟨by first | decide | omega | contradiction | exact absurd trivial (by assumption), by first | decide | omega | contradiction | exact absurd trivial (by assumption)⟩, ⟨by first | decide | omega | contradiction | exact absurd trivial (by assumption), by first | decide | omega | contradiction | exact absurd trivial (by assumption)⟩, ?_⟩⟩⟩
        try (any_goals (exfalso; first | omega | exact absurd trivial (by assumption)))
        exact k0
      · have em : mP p = p.2 := by unfold mP; rw [if_neg hp1]
        rw [em]
        by_cases hlt : p.2 < sChF W S c (ixn (wC W) a) n (ixn (wC W) o) j
        · have k0 := take hlt hF3 e2
          refine ⟨fun q1 => ⟨⟨by first | decide | omega | contradiction | exact absurd trivial (by assumption), by first | decide | omega | contradiction | exact absurd trivial (by assumption)⟩, ⟨by first | decide | omega | contradiction | exact absurd trivial (by assumption), by first | decide | omega | contradiction | exact absurd trivial (by assumption)⟩, ⟨by first | decide | omega | contradiction | exact absurd trivial (by assumption), by first | decide | omega | contradiction | exact absurd trivial (by assumption)⟩, ?_⟩, fun q2 => ⟨fun q3 => ⟨⟨by first | decide | omega | contradiction | exact absurd trivial (by assumption), by first | decide | omega | contradiction | exact absurd trivial (by assumption)⟩, ?_⟩, fun q4 => ⟨⟨by first | decide | omega | contradiction | exact absurd trivial (by assumption), by first | decide | omega | contradiction | exact absurd trivial (by assumption)⟩, ⟨by first | decide | omega | contradiction | exact absurd trivial (by assumption), by first | decide | omega | contradiction | exact absurd trivial (by assumption)⟩, ⟨by first | decide | omega | contradiction | exact absurd trivial (by assumption), by first | decide | omega | contradiction | exact absurd trivial (by assumption)⟩, ?_⟩⟩⟩
          try (any_goals (exfalso; first | omega | exact absurd trivial (by assumption)))
          exact k0
        · have k0 := keep hlt hp1 hF3 e2
          refine ⟨fun q1 => ⟨⟨by first | decide | omega | contradiction | exact absurd trivial (by assumption), by first | decide | omega | contradiction | exact absurd trivial (by assumption)⟩, ⟨by first | decide | omega | contradiction | exact absurd trivial (by assumption), by first | decide | omega | contradiction | exact absurd trivial (by assumption)⟩, ⟨by first | decide | omega | contradiction | exact absurd trivial (by assumption), by first | decide | omega | contradiction | exact absurd trivial (by assumption)⟩, ?_⟩, fun q2 => ⟨fun q3 => ⟨⟨by first | decide | omega | contradiction | exact absurd trivial (by assumption), by first | decide | omega | contradiction | exact absurd trivial (by assumption)⟩, ?_⟩, fun q4 => ⟨⟨by first | decide | omega | contradiction | exact absurd trivial (by assumption), by first | decide | omega | contradiction | exact absurd trivial (by assumption)⟩, ⟨by first | decide | omega | contradiction | exact absurd trivial (by assumption), by first | decide | omega | contradiction | exact absurd trivial (by assumption)⟩, ⟨by first | decide | omega | contradiction | exact absurd trivial (by assumption), by first | decide | omega | contradiction | exact absurd trivial (by assumption)⟩, ?_⟩⟩⟩
          try (any_goals (exfalso; first | omega | exact absurd trivial (by assumption)))
          exact k0
theorem chg_21 {n : Nat} {a k : Int} {v0 : zH} {QX : Nat → zH → Prop} (hn : 1 ≤ n ∧ n ≤ 72) (ha : isc (wR W) (wC W) a = true) (K : ∀ v' : zH, Fz v0 v' → QM v' W c S → Q (if k = 0 then (sCh1 W S c (ixn (wC W) a) n (wN W).toNat).1 else (sCh1 W S c (ixn (wC W) a) n (wN W).toNat).2) v') :
    ∀ (m i : Nat) {v : zH}, i + m = 36 → Pok (mCh W S c (ixn (wC W) a) n i) → (1 ≤ i → (mCh W S c (ixn (wC W) a) n i).1 ≠ -1) → Fz v0 v → QM v W c S → zJ l G 1 (d + 9) h_M_changed k_M_changed 115 Q QX 21 [(2, 77), (0, a), (0, (n : Int)), (0, k), (0, (mCh W S c (ixn (wC W) a) n i).1), (0, mP (mCh W S c (ixn (wC W) a) n i)), (0, (i : Int)), (3, 0), (3, 0), (3, 0), (3, 0)] [] v 115
  | m, i, v, hi, hp, h1, hF, hQ => by
    obtain ⟨hW, hM, hc, -⟩ := id hQ.1
    have hR := W_R1 hW ha
    have h4 := hW.2.2.2.2.2.2.1
    match m, hi with
    | 0, hi =>
      have e : i = 36 := by omega
      subst e
      have K := K v hF hQ
      rw [← mCh_36 hW] at K
      have hne := h1 (by omega)
      have em : mP (mCh W S c (ixn (wC W) a) n 36) = (mCh W S c (ixn (wC W) a) n 36).2 := by unfold mP; rw [if_neg hne]
      rw [em]
      by_cases hk : k = 0
      · rw [if_pos hk] at K
        refine zgo ck_M_changed 300 21 _ _ _ _ rfl (sg_M_changed_21 ?_)
        try simp (disch := omega) only [zup_e, zup_ak, zup_j, Int.zero_add, Int.reduceAdd, mz78, mz79, mz80, mz81, mz82, mz83, mz84, mz85, mz86, mz87, mz88, mz89, mz90, mz91, mz92, mz93, mz94, mz95, mz96, mz97, mz98, mz99, mz100, mz101, mz102, mz103, mz104, mz105, mz106, mz107, mz108, mz109, mz110, mz111, mz112, mz113]
        refine ⟨fun q1 => ⟨fun q2 => ?_, fun q3 => ?_⟩, fun q4 => ?_⟩
        try (any_goals (exfalso; first | omega | exact absurd trivial (by assumption)))
        exact K
      · rw [if_neg hk] at K
        refine zgo ck_M_changed 300 21 _ _ _ _ rfl (sg_M_changed_21 ?_)
        try simp (disch := omega) only [zup_e, zup_ak, zup_j, Int.zero_add, Int.reduceAdd, mz78, mz79, mz80, mz81, mz82, mz83, mz84, mz85, mz86, mz87, mz88, mz89, mz90, mz91, mz92, mz93, mz94, mz95, mz96, mz97, mz98, mz99, mz100, mz101, mz102, mz103, mz104, mz105, mz106, mz107, mz108, mz109, mz110, mz111, mz112, mz113]
        refine ⟨fun q1 => ⟨fun q2 => ?_, fun q3 => ?_⟩, fun q4 => ?_⟩
        try (any_goals (exfalso; first | omega | exact absurd trivial (by assumption)))
        exact K
    | m + 1, hi =>
      have g := fun {v : zH} => chg_21 (v := v) (QX := QX) hn ha K m (i + 1) (by omega)
      rw [mCh_s] at g
      refine zgo ck_M_changed 300 21 _ _ _ _ rfl (sg_M_changed_21 ?_)
      try simp (disch := omega) only [zup_e, zup_ak, zup_j, Int.zero_add, Int.reduceAdd, mz78, mz79, mz80, mz81, mz82, mz83, mz84, mz85, mz86, mz87, mz88, mz89, mz90, mz91, mz92, mz93, mz94, mz95, mz96, mz97, mz98, mz99, mz100, mz101, mz102, mz103, mz104, mz105, mz106, mz107, mz108, mz109, mz110, mz111, mz112, mz113]
      refine ⟨fun q1 => ⟨fun q2 => ?_, fun q3 => ?_⟩, fun q4 => ?_⟩
      try (any_goals (exfalso; first | omega | exact absurd trivial (by assumption)))
      by_cases ho : isc (wR W) (wC W) i = true
      · rw [if_pos ho] at g
        exact chg_26 (o := i) (p0 := mCh W S c (ixn (wC W) a) n i) hn ha ho (fun v1 z1 z2 z3 z4 => g z3 (fun _ => z4) z1 z2) (wS W).toNat 0 (by omega) hp (fun q => absurd q (by omega)) hF hQ
      · rw [if_neg ho] at g
        have hi0 : 1 ≤ i := by
          have h0 := (isc_0 hW hR).1
          by_cases e : i = 0
          · subst e
            exact absurd h0 ho
          · omega
        have k0 := g hp (fun _ => h1 hi0) hF hQ
        by_cases hs : wS W ≤ 0
        · refine zgo ck_M_changed 300 26 _ _ _ _ rfl (sg_M_changed_26 ?_)
          try simp (disch := omega) only [zup_e, zup_ak, zup_j, Int.zero_add, Int.reduceAdd, mz78, mz79, mz80, mz81, mz82, mz83, mz84, mz85, mz86, mz87, mz88, mz89, mz90, mz91, mz92, mz93, mz94, mz95, mz96, mz97, mz98, mz99, mz100, mz101, mz102, mz103, mz104, mz105, mz106, mz107, mz108, mz109, mz110, mz111, mz112, mz113, hM.1]
          refine ⟨by first | decide | omega | contradiction | exact absurd trivial (by assumption), ⟨fun q1 => ⟨⟨by first | decide | omega | contradiction | exact absurd trivial (by assumption), by first | decide | omega | contradiction | exact absurd trivial (by assumption)⟩, ?_⟩, fun q2 => ⟨by first | decide | omega | contradiction | exact absurd trivial (by assumption), ?_⟩⟩⟩
          try (any_goals (exfalso; first | omega | exact absurd trivial (by assumption)))
          exact k0
        · refine zgo ck_M_changed 300 26 _ _ _ _ rfl (sg_M_changed_26 ?_)
          try simp (disch := omega) only [zup_e, zup_ak, zup_j, Int.zero_add, Int.reduceAdd, mz78, mz79, mz80, mz81, mz82, mz83, mz84, mz85, mz86, mz87, mz88, mz89, mz90, mz91, mz92, mz93, mz94, mz95, mz96, mz97, mz98, mz99, mz100, mz101, mz102, mz103, mz104, mz105, mz106, mz107, mz108, mz109, mz110, mz111, mz112, mz113, hM.1]
          refine ⟨by first | decide | omega | contradiction | exact absurd trivial (by assumption), ⟨fun q1 => ⟨⟨by first | decide | omega | contradiction | exact absurd trivial (by assumption), by first | decide | omega | contradiction | exact absurd trivial (by assumption)⟩, ?_⟩, fun q2 => ⟨by first | decide | omega | contradiction | exact absurd trivial (by assumption), ?_⟩⟩⟩
          try (any_goals (exfalso; first | omega | exact absurd trivial (by assumption)))
          refine m_cell hM ?_
          rw [if_neg ho]
          refine ⟨fun q1 => ⟨⟨by first | decide | omega | contradiction | exact absurd trivial (by assumption), by first | decide | omega | contradiction | exact absurd trivial (by assumption)⟩, ?_⟩, fun q2 => ⟨by first | decide | omega | contradiction | exact absurd trivial (by assumption), ?_⟩⟩
          try (any_goals (exfalso; first | omega | exact absurd trivial (by assumption)))
          exact k0
theorem c_M_changed {a n k : Int} (hQ : QM v W c S) (K : ∀ v' : zH, Fz v v' → QM v' W c S → Q (aChanged W S c a n k) v') : zC l G 1 (d + 9) h_M_changed [(2, 77), (0, a), (0, n), (0, k)] v 115 Q := by
  obtain ⟨hW, hM, hc, -⟩ := id hQ.1
  unfold aChanged at K
  refine zC_at ok_M_changed ck_M_changed rfl rfl (sg_M_changed_0 ?_)
  try simp (disch := omega) only [zup_e, zup_ak, zup_j, Int.zero_add, Int.reduceAdd, mz78, mz79, mz80, mz81, mz82, mz83, mz84, mz85, mz86, mz87, mz88, mz89, mz90, mz91, mz92, mz93, mz94, mz95, mz96, mz97, mz98, mz99, mz100, mz101, mz102, mz103, mz104, mz105, mz106, mz107, mz108, mz109, mz110, mz111, mz112, mz113]
  refine ⟨by first | decide | omega | contradiction | exact absurd trivial (by assumption), ?_⟩
  try (any_goals (exfalso; first | omega | exact absurd trivial (by assumption)))
  refine m_cell hM ?_
  by_cases ha : isc (wR W) (wC W) a = true
  rotate_left
  · rw [if_neg ha]
    rw [if_neg (fun q => ha q.1)] at K
    refine ⟨fun q1 => ?_, fun q2 => ⟨by first | decide | omega | contradiction | exact absurd trivial (by assumption), ?_⟩⟩
    try (any_goals (exfalso; first | omega | exact absurd trivial (by assumption)))
    exact K v Fz_rf hQ
  rw [if_pos ha]
  have hR := W_R1 hW ha
  refine ⟨fun q1 => ?_, fun q2 => ⟨by first | decide | omega | contradiction | exact absurd trivial (by assumption), ?_⟩⟩
  try (any_goals (exfalso; first | omega | exact absurd trivial (by assumption)))
  refine c_M_areHours hM ?_
  by_cases hn : 1 ≤ n ∧ n ≤ 72
  rotate_left
  · rw [if_neg (fun q => hn q.2)]
    rw [if_neg (fun q => hn q.2.1)] at K
    refine ⟨fun q1 => ?_, fun q2 => ?_⟩
    try (any_goals (exfalso; first | omega | exact absurd trivial (by assumption)))
    exact K v Fz_rf hQ
  rw [if_pos ⟨hR, hn⟩]
  refine ⟨fun q1 => ?_, fun q2 => ?_⟩
  try (any_goals (exfalso; first | omega | exact absurd trivial (by assumption)))
  refine c_M_in ?_
  by_cases hk : 0 ≤ k ∧ k ≤ 1
  rotate_left
  · rw [if_neg hk]
    rw [if_neg (fun q => hk q.2.2)] at K
    refine ⟨fun q1 => ?_, fun q2 => ?_⟩
    try (any_goals (exfalso; first | omega | exact absurd trivial (by assumption)))
    exact K v Fz_rf hQ
  rw [if_pos hk]
  rw [if_pos ⟨ha, hn, hk⟩] at K
  obtain ⟨m, rfl⟩ : ∃ m : Nat, n = m := ⟨n.toNat, by omega⟩
  rw [Int.toNat_natCast] at K
  refine ⟨fun q1 => ?_, fun q2 => ?_⟩
  try (any_goals (exfalso; first | omega | exact absurd trivial (by assumption)))
  exact chg_21 (by omega) ha K 36 0 (by omega) ⟨fun _ => rfl, fun q => absurd rfl q⟩ (fun q => absurd q (by omega)) Fz_rf hQ
end
