/-! THE CLASS: what is told by hand, hours that go by, undone, images, touched -/
def gLaw (s : zSg) (n : Int) : zSg := if -1 ≤ n ∧ n ≤ (kA (gS s)).length - 1 then (gX s, gW s, gC s, (kA (gS s), n, kR (gS s)), gL s, gI s, gT s) else s
def aLaw (s : zSg) (n : Int) : Int := if -1 ≤ n ∧ n ≤ (kA (gS s)).length - 1 then 1 else 0
def gRain (s : zSg) (h b : Int) : zSg := if 0 < wR (gW s) ∧ (0 ≤ h ∧ h ≤ 23) ∧ ¬ (if sRain (kR (gS s)) h then (1 : Int) else 0) = b then (gX s, gW s, gC s, (kA (gS s), kH (gS s), zxor (kR (gS s)) (zshl 1 h)), gL s, gI s, gT s) else s
def aRain (s : zSg) (h b : Int) : Int := if 0 < wR (gW s) ∧ (0 ≤ h ∧ h ≤ 23) ∧ ¬ (if sRain (kR (gS s)) h then (1 : Int) else 0) = b then 1 else 0
def gWarm (s : zSg) (a x : Int) : zSg := if isc (wR (gW s)) (wC (gW s)) a = true ∧ (0 ≤ x ∧ x ≤ wT (gW s) (3 * cS (gC s) (ixn (wC (gW s)) a) + 1)) then (gX s, gW s, (cH (gC s), upf (cW (gC s)) (ixn (wC (gW s)) a) x, cS (gC s), cF (gC s), cU (gC s)), gS s, gL s, gI s, gT s) else s
def aWarm (s : zSg) (a x : Int) : Int := if isc (wR (gW s)) (wC (gW s)) a = true ∧ (0 ≤ x ∧ x ≤ wT (gW s) (3 * cS (gC s) (ixn (wC (gW s)) a) + 1)) then 1 else 0
def gBake (s : zSg) (o f u : Int) : zSg := if (0 ≤ o ∧ o < wO (gW s)) ∧ (0 ≤ f ∧ f ≤ 23) ∧ (0 ≤ u ∧ u ≤ 23) then (gX s, gW s, cOvn (gC s) o f u, gS s, gL s, gI s, gT s) else s
def aBake (s : zSg) (o f u : Int) : Int := if (0 ≤ o ∧ o < wO (gW s)) ∧ (0 ≤ f ∧ f ≤ 23) ∧ (0 ≤ u ∧ u ≤ 23) then 1 else 0
def sHr (W : zWl) (S : zSk) (c : zCo) (L : zPa) : Nat → zPa
  | 0 => L
  | k + 1 => cW (sSt W (sSn S) (kR S) c k) :: (sHr W S c L k).take 59
def gHours (s : zSg) (n : Int) : zSg := if 0 < wR (gW s) ∧ (1 ≤ n ∧ n ≤ 72) then (gX s, gW s, sSt (gW s) (sSn (gS s)) (kR (gS s)) (gC s) n.toNat, gS s, sHr (gW s) (gS s) (gC s) (gL s) n.toNat, gI s, gT s) else s
def aHours (s : zSg) (n : Int) : Int := if 0 < wR (gW s) ∧ (1 ≤ n ∧ n ≤ 72) then cH (gC s) + n else -1
def gUndo (s : zSg) : zSg := match gL s with
  | [] => s
  | f :: r => (gX s, gW s, (cH (gC s) - 1, f, cS (gC s), cF (gC s), cU (gC s)), gS s, r, gI s, gT s)
def aUndo (s : zSg) : Int := match gL s with
  | [] => -1
  | _ :: _ => cH (gC s) - 1
def gImage (s : zSg) : zSg := if 0 < wR (gW s) then (gX s, gW s, gC s, gS s, gL s, (true, cW (gC s), cH (gC s)), gT s) else s
def aImage (s : zSg) : Int := if 0 < wR (gW s) then cH (gC s) else -1
def gBack (s : zSg) : zSg := if (gI s).1 = true then (gX s, gW s, ((gI s).2.2, (gI s).2.1, cS (gC s), cF (gC s), cU (gC s)), gS s, [], gI s, gT s) else s
def aBack (s : zSg) : Int := if (gI s).1 = true then (gI s).2.2 else -1
def touP (s : zSg) (a n x : Int) : Bool := isc (wR (gW s)) (wC (gW s)) a && decide (0 ≤ n ∧ n ≤ 48) && decide (0 ≤ x ∧ x ≤ 99) && decide (tN (gT s) ≠ 20)
theorem touP_iff {s : zSg} {a n x : Int} : touP s a n x = true ↔ isc (wR (gW s)) (wC (gW s)) a = true ∧ (0 ≤ n ∧ n ≤ 48) ∧ (0 ≤ x ∧ x ≤ 99) ∧ tN (gT s) ≠ 20 := by
  unfold touP
  simp only [Bool.and_eq_true, decide_eq_true_eq, and_assoc]
def gTouched (s : zSg) (a n x : Int) : zSg := if touP s a n x = true then (gX s, gW s, gC s, gS s, gL s, gI s, (tN (gT s) + 1, upf (tC (gT s)) (tN (gT s)) (ixn (wC (gW s)) a), upf (tH (gT s)) (tN (gT s)) n, upf (tV (gT s)) (tN (gT s)) x)) else s
def aTouched (s : zSg) (a n x : Int) : Int := if touP s a n x = true then tN (gT s) + 1 else -1
section
variable {l : Launch} {G : zG} {d : Nat} {v : zH} {Q : Int → zH → Prop}
theorem c_W_law {n : Int} {s : zSg} (hA : AC v s) (K : ∀ v' : zH, Fc v v' → AC v' (gLaw s n) → Q (aLaw s n) v') : zC l G 1 (d + 2) h_W_law [(2, 0), (0, n)] v 115 Q := by
  have hA' := hA
  obtain ⟨w, k1, k2, k3, k4, k5⟩ := hA
  have hw := k1.2.1
  have hs := k1.2.2.2.2.2.2.2
  have hk := k1.2.2.2.2.2.2.1
  have hk4 := hk.1
  unfold gLaw aLaw at K
  refine zC_at ok_W_law ck_W_law rfl rfl (sg_W_law_0 ?_)
  try simp (disch := omega) only [zup_e, zup_ak, zup_j, Int.zero_add, hs.1]
  refine ⟨by first | decide | omega, by first | decide | omega, ⟨by first | decide | omega, by first | decide | omega⟩, ?_⟩
  try (any_goals (exfalso; first | omega | exact absurd trivial (by assumption)))
  refine c_W_within ?_
  by_cases h : -1 ≤ n ∧ n ≤ (kA (gS s)).length - 1
  · rw [if_pos h] at K ⊢
    rw [if_pos h] at K
    try simp (disch := omega) only [zup_e, zup_ak, zup_j, Int.zero_add]
    refine ⟨fun q1 => ⟨by first | decide | omega, by first | decide | omega, ?_⟩, fun q2 => ⟨by first | decide | omega, ?_⟩⟩
    try (any_goals (exfalso; first | omega | exact absurd trivial (by assumption)))
    refine c_Sk_obey hk hs (fun v1 g1 g2 g3 => ?_)
    have hQ : QC v1 w (gW s) (gC s) (kA (gS s), n, kR (gS s)) := by
      obtain ⟨m1, m2, m3, m4, m5, m6, m7, m8⟩ := k1
      refine ⟨by rw [g1 0 (by omega) (by omega)]; exact m1, m2, m3, WL_fr (fun a h1 h2 => g1 a (by omega) (by omega)) m4, m5, CO_fr (fun a q => g1 a (by omega) (by omega)) m6, ⟨m7.1, m7.2.1, by show -1 ≤ n; omega, by show n < ((kA (gS s)).length : Int); omega⟩, g3⟩
    refine ⟨by first | decide | omega, ?_⟩
    exact K v1 (fun b q => g1 b (by omega) (by omega)) ⟨w, hQ, by rw [g1 0 (by omega) (by omega)]; exact k2, TP_fr (fun a q => g1 a (by omega) (by omega)) k3, PS_fr (fun a q1 q2 => g1 a (by omega) (by omega)) k4, TS_fr (fun a q1 q2 => g1 a (by omega) (by omega)) k5⟩
  · rw [if_neg h] at K ⊢
    rw [if_neg h] at K
    try simp (disch := omega) only [zup_e, zup_ak, zup_j, Int.zero_add]
    refine ⟨fun q1 => ⟨by first | decide | omega, by first | decide | omega, ?_⟩, fun q2 => ⟨by first | decide | omega, ?_⟩⟩
    try (any_goals (exfalso; first | omega | exact absurd trivial (by assumption)))
    exact K v Fc_rf hA'
theorem c_W_rain {h b : Int} {s : zSg} (hA : AC v s) (K : ∀ v' : zH, Fc v v' → AC v' (gRain s h b) → Q (aRain s h b) v') : zC l G 1 (d + 2) h_W_rain [(2, 0), (0, h), (0, b)] v 115 Q := by
  have hA' := hA
  obtain ⟨w, k1, k2, k3, k4, k5⟩ := hA
  have hw := k1.2.1
  have w0 := (zwo_f hw).1
  have hn0 := W_n0 k1.2.2.1
  have hs := k1.2.2.2.2.2.2.2
  unfold gRain aRain at K
  refine zC_at ok_W_rain ck_W_rain rfl rfl (sg_W_rain_0 ?_)
  try simp (disch := omega) only [zup_e, zup_ak, zup_j, Int.zero_add, k1.1, k1.2.2.2.1.2.2.1]
  refine ⟨by first | decide | omega, by first | decide | omega, by first | decide | omega, ⟨fun q1 => ⟨by first | decide | omega, ?_⟩, fun q2 => ?_⟩⟩
  try (any_goals (exfalso; first | omega | exact absurd trivial (by assumption)))
  · rw [if_neg (fun r => by omega), if_neg (fun r => by omega)] at K
    exact K v Fc_rf hA'
  refine c_W_within ?_
  by_cases h1 : 0 ≤ h ∧ h ≤ 23
  rotate_left
  · rw [if_neg h1]
    try simp (disch := omega) only [zup_e, zup_ak, zup_j, Int.zero_add]
    refine ⟨fun q1 => ⟨by first | decide | omega, ?_⟩, fun q2 => ⟨by first | decide | omega, by first | decide | omega, ?_⟩⟩
    try (any_goals (exfalso; first | omega | exact absurd trivial (by assumption)))
    rw [if_neg (fun r => h1 r.2.1), if_neg (fun r => h1 r.2.1)] at K
    exact K v Fc_rf hA'
  rw [if_pos h1]
  try simp (disch := omega) only [zup_e, zup_ak, zup_j, Int.zero_add]
  refine ⟨fun q1 => ⟨by first | decide | omega, ?_⟩, fun q2 => ⟨by first | decide | omega, by first | decide | omega, ?_⟩⟩
  try (any_goals (exfalso; first | omega | exact absurd trivial (by assumption)))
  refine c_Sk_rainsAt hs (by omega) ?_
  by_cases h2 : (if sRain (kR (gS s)) h then (1 : Int) else 0) = b
  · refine ⟨fun q => absurd h2 q, fun _ => ⟨by decide, ?_⟩⟩
    rw [if_neg (fun r => r.2.2 h2), if_neg (fun r => r.2.2 h2)] at K
    exact K v Fc_rf hA'
  · refine ⟨fun _ => ⟨by decide, by decide, by decide, by decide, ?_⟩, fun q => absurd q h2⟩
    rw [if_pos ⟨by omega, h1, h2⟩, if_pos ⟨by omega, h1, h2⟩] at K
    simp only [Int.zero_add, hs.2.2.1]
    have hf : ∀ (x : Int) (b : Int), b ≠ 5 → (zupd v 5 5 x) b = v b := fun x b q => zup_a q
    refine K _ (fun b q => hf _ b (by omega)) ⟨w, ?_, k2, TP_fr (fun a q => hf _ a (by omega)) k3, PS_fr (fun a q1 q2 => hf _ a (by omega)) k4, TS_fr (fun a q1 q2 => hf _ a (by omega)) k5⟩
    obtain ⟨m1, m2, m3, m4, m5, m6, m7, m8⟩ := k1
    refine ⟨m1, m2, m3, WL_fr (fun a h1 h2 => hf _ a (by omega)) m4, m5, CO_fr (fun a q => hf _ a (by omega)) m6, m7, ?_⟩
    obtain ⟨s1, s2, s3, s4, s5, s6⟩ := m8
    exact ⟨by rw [zup_j (by omega)]; exact s1, by rw [zup_j (by omega)]; exact s2, zup_e rfl rfl, s4, fun k P hP => by
      have hP : (kA (gS s))[k]? = some P := hP
      have hkl := (List.getElem?_eq_some_iff.mp hP).1
      have hl := m7.1
      have e0 := hf (zxor (kR (gS s)) (zshl 1 h)) (9 + 3 * k) (by omega)
      have e1 := hf (zxor (kR (gS s)) (zshl 1 h)) (9 + 3 * k + 1) (by omega)
      obtain ⟨q1, q2, q3⟩ := s5 k P hP
      exact ⟨by rw [e0]; exact q1, CR_fr e1 _ _ q2, by rw [e0]; exact q3⟩, s6⟩
theorem c_W_warm {a x : Int} {s : zSg} (hA : AC v s) (K : ∀ v' : zH, Fc v v' → AC v' (gWarm s a x) → Q (aWarm s a x) v') : zC l G 1 (d + 2) h_W_warm [(2, 0), (0, a), (0, x)] v 115 Q := by
  have hA' := hA
  obtain ⟨w, k1, k2, k3, k4, k5⟩ := hA
  have hw := k1.2.1
  obtain ⟨w0, w1, w3, w5, -⟩ := zwo_f hw
  have z3 : zLN (24 + 3) = 24 := by decide
  have z1 : zLN (24 + 1) = 24 := by decide
  have hb := fun h => ix_b (a := a) k1.2.2.1 h
  unfold gWarm aWarm at K
  refine zC_at ok_W_warm ck_W_warm rfl rfl (sg_W_warm_0 ?_)
  try simp (disch := omega) only [zup_e, zup_ak, zup_j, Int.zero_add, k1.1]
  refine ⟨by first | decide | omega, by first | decide | omega, by first | decide | omega, ?_⟩
  try (any_goals (exfalso; first | omega | exact absurd trivial (by assumption)))
  refine c_ix k1 ?_
  by_cases h1 : isc (wR (gW s)) (wC (gW s)) a = true
  rotate_left
  · rw [if_neg h1]
    refine ⟨fun q => ⟨by decide, ?_⟩, fun q => absurd rfl q⟩
    rw [if_neg (fun r => h1 r.1), if_neg (fun r => h1 r.1)] at K
    exact K v Fc_rf hA'
  rw [if_pos h1]
  have hb := hb h1
  have e1 := k1.2.2.2.2.2.1.2.1 _ hb.1 hb.2.1
  have hc := k1.2.2.2.2.1.1.2.1 _ hb.1 hb.2.1
  show _
  simp only [Int.zero_add, k1.1, e1.2]
  refine ⟨fun q1 => ⟨by first | decide | omega, ?_⟩, fun q2 => ⟨by first | decide | omega, by first | decide | omega, by first | decide | omega, by first | decide | omega, by first | decide | omega, by first | decide | omega, ⟨by first | decide | omega, by first | decide | omega⟩, by first | decide | omega, ?_⟩⟩
  try (any_goals (exfalso; first | omega | exact absurd trivial (by assumption)))
  refine q_st k1 hc.1 (by omega) ?_
  show _
  refine c_W_within ?_
  by_cases h2 : 0 ≤ x ∧ x ≤ wT (gW s) (3 * cS (gC s) (ixn (wC (gW s)) a) + 1)
  rotate_left
  · rw [if_neg h2]
    refine ⟨fun q => absurd rfl q, fun q => ⟨by decide, ?_⟩⟩
    rw [if_neg (fun r => h2 r.2), if_neg (fun r => h2 r.2)] at K
    exact K v Fc_rf hA'
  rw [if_pos h2]
  rw [if_pos ⟨h1, h2⟩, if_pos ⟨h1, h2⟩] at K
  refine ⟨fun q1 => ⟨by first | decide | omega, by first | decide | omega, by first | decide | omega, ⟨by first | decide | omega, by first | decide | omega⟩, by first | decide | omega, ?_⟩, fun q2 => ⟨by first | decide | omega, ?_⟩⟩
  try (any_goals (exfalso; first | omega | exact absurd trivial (by assumption)))
  have hf : ∀ (y : Int) (b : Int), b ≠ 24 + 1 → (zupd v (24 + 1) (ixn (wC (gW s)) a) y) b = v b := fun y b q => zup_a q
  refine K _ (fun b q => hf _ b (by omega)) ⟨w, ?_, k2, TP_fr (fun a q => hf _ a (by omega)) k3, PS_fr (fun a q1 q2 => hf _ a (by omega)) k4, TS_fr (fun a q1 q2 => hf _ a (by omega)) k5⟩
  obtain ⟨m1, m2, m3, m4, m5, m6, m7, m8⟩ := k1
  refine ⟨m1, m2, m3, WL_fr (fun a h1 h2 => hf _ a (by omega)) m4, ⟨⟨m5.1.1, fun b h3 h4 => ?_, m5.1.2.2⟩, m5.2⟩, ⟨m6.1, fun b h3 h4 => ⟨?_, (m6.2.1 b h3 h4).2⟩, m6.2.2⟩, m7, SK_fk m7 (fun a q1 q2 => hf _ a (by omega)) m8⟩
  · have hq := m5.1.2.1 b h3 h4
    refine ⟨hq.1, ?_⟩
    show 0 ≤ upf (cW (gC s)) (ixn (wC (gW s)) a) x b ∧ upf (cW (gC s)) (ixn (wC (gW s)) a) x b ≤ wT (gW s) (3 * cS (gC s) b + 1)
    by_cases e : b = ixn (wC (gW s)) a
    · rw [e, upf_s]
      exact h2
    · rw [upf_n e]
      exact hq.2
  · show _ = upf (cW (gC s)) (ixn (wC (gW s)) a) x b
    by_cases e : b = ixn (wC (gW s)) a
    · rw [e, upf_s, zup_e rfl rfl]
    · rw [upf_n e, zup_j e]
      exact (m6.2.1 b h3 h4).1
theorem c_W_bake {o f u : Int} {s : zSg} (hA : AC v s) (K : ∀ v' : zH, Fc v v' → AC v' (gBake s o f u) → Q (aBake s o f u) v') : zC l G 1 (d + 2) h_W_bake [(2, 0), (0, o), (0, f), (0, u)] v 115 Q := by
  have hA' := hA
  obtain ⟨w, k1, k2, k3, k4, k5⟩ := hA
  have hw := k1.2.1
  obtain ⟨w0, w1, w3, w5, -⟩ := zwo_f hw
  have z4 : zLN (24 + 4) = 3 := by decide
  have z5 : zLN (24 + 5) = 3 := by decide
  have hO := k1.2.2.1.2.2.2.2.2.2.2.1
  unfold gBake aBake at K
  refine zC_at ok_W_bake ck_W_bake rfl rfl (sg_W_bake_0 ?_)
  try simp (disch := omega) only [zup_e, zup_ak, zup_j, Int.zero_add, k1.1]
  refine ⟨by first | decide | omega, by first | decide | omega, by first | decide | omega, by first | decide | omega, ?_⟩
  try (any_goals (exfalso; first | omega | exact absurd trivial (by assumption)))
  refine c_has1 k1 ?_
  by_cases h1 : 0 ≤ o ∧ o < wO (gW s)
  rotate_left
  · rw [if_neg h1]
    refine ⟨fun q => ⟨by decide, ?_⟩, fun q => absurd rfl q⟩
    rw [if_neg (fun r => h1 r.1), if_neg (fun r => h1 r.1)] at K
    exact K v Fc_rf hA'
  rw [if_pos h1]
  refine ⟨fun q1 => ⟨by first | decide | omega, ?_⟩, fun q2 => ?_⟩
  try (any_goals (exfalso; first | omega | exact absurd trivial (by assumption)))
  refine c_W_within ?_
  by_cases h2 : 0 ≤ f ∧ f ≤ 23
  rotate_left
  · rw [if_neg h2]
    refine ⟨fun q => ⟨by decide, ?_⟩, fun q => absurd rfl q⟩
    rw [if_neg (fun r => h2 r.2.1), if_neg (fun r => h2 r.2.1)] at K
    exact K v Fc_rf hA'
  rw [if_pos h2]
  refine ⟨fun q1 => ⟨by first | decide | omega, ?_⟩, fun q2 => ?_⟩
  try (any_goals (exfalso; first | omega | exact absurd trivial (by assumption)))
  refine c_W_within ?_
  by_cases h3 : 0 ≤ u ∧ u ≤ 23
  rotate_left
  · rw [if_neg h3]
    refine ⟨fun q => absurd rfl q, fun q => ⟨by decide, ?_⟩⟩
    rw [if_neg (fun r => h3 r.2.2), if_neg (fun r => h3 r.2.2)] at K
    exact K v Fc_rf hA'
  rw [if_pos h3]
  rw [if_pos ⟨h1, h2, h3⟩, if_pos ⟨h1, h2, h3⟩] at K
  refine ⟨fun q1 => ⟨by first | decide | omega, by first | decide | omega, by first | decide | omega, ⟨by first | decide | omega, by first | decide | omega⟩, by first | decide | omega, by first | decide | omega, by first | decide | omega, ⟨by first | decide | omega, by first | decide | omega⟩, by first | decide | omega, ?_⟩, fun q2 => ⟨by first | decide | omega, ?_⟩⟩
  try (any_goals (exfalso; first | omega | exact absurd trivial (by assumption)))
  have hf : ∀ (b : Int), b ≠ 24 + 4 → b ≠ 24 + 5 → (zupd (zupd v (24 + 4) o f) (24 + 5) o u) b = v b := fun b q1 q2 => by rw [zup_a q2, zup_a q1]
  refine K _ (fun b q => hf b (by omega) (by omega)) ⟨w, ?_, by rw [hf 0 (by omega) (by omega)]; exact k2, TP_fr (fun a q => hf a (by omega) (by omega)) k3, PS_fr (fun a q1 q2 => hf a (by omega) (by omega)) k4, TS_fr (fun a q1 q2 => hf a (by omega) (by omega)) k5⟩
  obtain ⟨m1, m2, m3, m4, m5, m6, m7, m8⟩ := k1
  refine ⟨by rw [hf 0 (by omega) (by omega)]; exact m1, m2, m3, WL_fr (fun a h1 h2 => hf a (by omega) (by omega)) m4, ⟨Cok_ovn m5.1 h2 h3, m5.2⟩, ⟨by rw [hf 24 (by omega) (by omega)]; exact m6.1, fun b q1 q2 => by rw [hf (24 + 1) (by omega) (by omega), hf (24 + 3) (by omega) (by omega)]; exact m6.2.1 b q1 q2, fun k q1 q2 => ?_⟩, m7, SK_fk m7 (fun a q1 q2 => hf a (by omega) (by omega)) m8⟩
  show _ = upf (cF (gC s)) o f k ∧ _ = upf (cU (gC s)) o u k
  have := m6.2.2 k q1 q2
  by_cases e : k = o
  · subst e
    rw [zup_ak (by omega), zup_s, zup_s, upf_s, upf_s]
    exact ⟨rfl, rfl⟩
  · rw [zup_ak (by omega), zup_j e, zup_j e, zup_ak (by omega), upf_n e, upf_n e]
    exact this
theorem ho_13 {n : Nat} {w : Int} {W : zWl} {S : zSk} {c : zCo} {L : zPa} {I : zIm} {v0 : zH} {QX : Nat → zH → Prop} (hn : n ≤ 72) (hh : cH c + n ≤ 900000)
    (K : ∀ v' : zH, (∀ b : Int, fK b → b ≠ 24 → b ≠ 25 → b ≠ 26 → b ≠ 32 → b ≠ 42 → b ≠ 43 → v' b = v0 b) → QC v' w W (sSt W (sSn S) (kR S) c n) S → PS v' W (sHr W S c L n) I → Q (cH c + n) v') :
    ∀ (m i : Nat) {v : zH}, i + m = n → (∀ b : Int, fK b → b ≠ 24 → b ≠ 25 → b ≠ 26 → b ≠ 32 → b ≠ 42 → b ≠ 43 → v b = v0 b) → QC v w W (sSt W (sSn S) (kR S) c i) S → PS v W (sHr W S c L i) I →
    zJ l G 1 (d + 5) h_W_hours k_W_hours 115 Q QX 13 [(2, 0), (0, (n : Int)), (0, (i : Int))] [] v 115
  | 0, i, v, hi, hF, hQ, hP => by
    have e : i = n := by omega
    subst e
    have eh : v 24 8 = cH c + i := by rw [hQ.2.2.2.2.2.1.1, sSt_H]
    refine zgo ck_W_hours 300 13 _ _ _ _ rfl (sg_W_hours_13 ?_)
    try simp (disch := omega) only [zup_e, zup_ak, zup_j, Int.zero_add, eh]
    refine ⟨fun q1 => ⟨by first | decide | omega, by first | decide | omega, ?_⟩, fun q2 => ⟨by first | decide | omega, by first | decide | omega, by first | decide | omega, ?_⟩⟩
    try (any_goals (exfalso; first | omega | exact absurd trivial (by assumption)))
    exact K v hF hQ hP
  | m + 1, i, v, hi, hF, hQ, hP => by
    have hw := hQ.2.1
    have hH := sSt_H (W := W) (sn := sSn S) (rn := kR S) (c := c) i
    refine zgo ck_W_hours 300 13 _ _ _ _ rfl (sg_W_hours_13 ?_)
    try simp (disch := omega) only [zup_e, zup_ak, zup_j, Int.zero_add]
    refine ⟨fun q1 => ⟨by first | decide | omega, by first | decide | omega, ?_⟩, fun q2 => ⟨by first | decide | omega, by first | decide | omega, by first | decide | omega, ?_⟩⟩
    try (any_goals (exfalso; first | omega | exact absurd trivial (by assumption)))
    refine c_Pa_keep hQ.2.2.1 hP hQ.2.2.2.2.2.1 (fun v1 g1 g2 => ?_)
    have hQ1 : QC v1 w W (sSt W (sSn S) (kR S) c i) S := QC_fr' (fun b q => g1 b (by omega) (by omega)) hQ
    try simp (disch := omega) only [zup_e, zup_ak, zup_j, Int.zero_add, hQ1.1]
    refine ⟨by first | decide | omega, by first | decide | omega, by first | decide | omega, by first | decide | omega, by first | decide | omega, ?_⟩
    obtain ⟨m1, m2, m3, m4, m5, m6, m7, m8⟩ := hQ1
    refine c_Co_step (Or.inl rfl) m2 m3 m4 m5.1 m6 m7 m8 (fun v2 f1 f2 f3 f4 => ?_)
    refine ⟨⟨by first | decide | omega, by first | decide | omega⟩, ?_⟩
    refine ho_13 hn hh K m (i + 1) (by omega) (fun b q0 q1 q2 q3 q4 q5 q6 => ?_) ⟨?_, m2, m3, Fr_WL (Or.inl rfl) m2 f1 m4, ⟨Cok_step snOk_S m3 m5.1 (by omega), ?_⟩, f3, m7, f2⟩ (PS_fr (fun a q1 q2 => f1 a (by unfold fK; omega) (by omega) (by omega) (by omega) (by omega)) g2)
    · rw [f1 b q0 q1 (by omega) (by omega) (by omega), g1 b q5 (by omega)]
      exact hF b q0 q1 q2 q3 q4 q5 q6
    · rw [f1 0 (by unfold fK; omega) (by omega) (by omega) (by omega) (by omega)]
      exact m1
    · show cH (sSt W (sSn S) (kR S) c i) + 1 ≤ 900000
      omega
theorem c_W_hours {n : Int} {s : zSg} (hh : cH (gC s) ≤ 800000) (hA : AC v s) (K : ∀ v' : zH, Fc v v' → AC v' (gHours s n) → Q (aHours s n) v') : zC l G 1 (d + 6) h_W_hours [(2, 0), (0, n)] v 115 Q := by
  have hA' := hA
  obtain ⟨w, k1, k2, k3, k4, k5⟩ := hA
  have hw := k1.2.1
  have w0 := (zwo_f hw).1
  have hn0 := W_n0 k1.2.2.1
  unfold gHours aHours at K
  refine zC_at ok_W_hours ck_W_hours rfl rfl (sg_W_hours_0 ?_)
  try simp (disch := omega) only [zup_e, zup_ak, zup_j, Int.zero_add, k1.1, k1.2.2.2.1.2.2.1]
  refine ⟨by first | decide | omega, by first | decide | omega, by first | decide | omega, ⟨fun q1 => ?_, fun q2 => ?_⟩⟩
  try (any_goals (exfalso; first | omega | exact absurd trivial (by assumption)))
  · rw [if_neg (fun r => by omega), if_neg (fun r => by omega)] at K
    exact K v Fc_rf hA'
  refine c_W_within ?_
  by_cases h1 : 1 ≤ n ∧ n ≤ 72
  rotate_left
  · rw [if_neg h1]
    try simp (disch := omega) only [zup_e, zup_ak, zup_j, Int.zero_add]
    refine ⟨fun q1 => ?_, fun q2 => ?_⟩
    try (any_goals (exfalso; first | omega | exact absurd trivial (by assumption)))
    rw [if_neg (fun r => h1 r.2), if_neg (fun r => h1 r.2)] at K
    exact K v Fc_rf hA'
  rw [if_pos h1]
  rw [if_pos ⟨by omega, h1⟩, if_pos ⟨by omega, h1⟩] at K
  obtain ⟨m, rfl⟩ : ∃ m : Nat, n = m := ⟨n.toNat, by omega⟩
  rw [Int.toNat_natCast] at K
  refine ⟨fun q1 => ?_, fun q2 => ?_⟩
  try (any_goals (exfalso; first | omega | exact absurd trivial (by assumption)))
  refine ho_13 (by omega) (show cH (gC s) + (m : Int) ≤ 900000 by omega) (fun v1 g1 g2 g3 => ?_) m 0 (by omega) (fun _ _ _ _ _ _ _ _ => rfl) k1 k4
  have hf : ∀ b : Int, (b ≤ 4 ∨ 44 ≤ b) → v1 b = v b := fun b q => g1 b (by unfold fK; omega) (by omega) (by omega) (by omega) (by omega) (by omega) (by omega)
  exact K v1 (fun b q => hf b (by omega)) ⟨w, g2, by rw [hf 0 (by omega)]; exact k2, TP_fr (fun a q => hf a (by omega)) k3, g3, TS_fr (fun a q1 q2 => hf a (by omega)) k5⟩
theorem QC_co {v v' : zH} {w : Int} {W : zWl} {c c' : zCo} {S : zSk} (h : ∀ b : Int, b ≠ 42 → b ≠ 24 → b ≠ 24 + 1 → v' b = v b) (hc : Cok W c') (hh : cH c' ≤ 900000) (hO : CO v' 24 W c') (k : QC v w W c S) : QC v' w W c' S := by
  obtain ⟨k1, k2, k3, k4, k5, k6, k7, k8⟩ := k
  refine ⟨?_, k2, k3, WL_fr (fun a h1 h2 => h a (by omega) (by omega) (by omega)) k4, ⟨hc, hh⟩, hO, k7, SK_fk k7 (fun a h1 h2 => h a (by omega) (by omega) (by omega)) k8⟩
  rw [h 0 (by omega) (by omega) (by omega)]
  exact k1
theorem Cok_w {W : zWl} {c : zCo} {f : Int → Int} {h : Int} (hc : Cok W c) (hf : hOk W c f) (hh : 0 ≤ h ∧ h ≤ 1000000) : Cok W (h, f, cS c, cF c, cU c) :=
  ⟨hh, fun a h1 h2 => ⟨(hc.2.1 a h1 h2).1, hf a h1 h2⟩, hc.2.2⟩
theorem c_W_undo {s : zSg} {B : Int} (hG : GOk s B) (hA : AC v s) (K : ∀ v' : zH, Fc v v' → AC v' (gUndo s) → Q (aUndo s) v') : zC l G 1 (d + 2) h_W_undo [(2, 0)] v 115 Q := by
  have hA' := hA
  obtain ⟨w, k1, k2, k3, k4, k5⟩ := hA
  obtain ⟨g1, g2, g3, g4, g5, g6, g7, g8, g9⟩ := hG
  unfold gUndo aUndo at K
  refine zC_at ok_W_undo ck_W_undo rfl rfl (sg_W_undo_0 ?_)
  try simp (disch := omega) only [zup_e, zup_ak, zup_j, Int.zero_add]
  refine ⟨by first | decide | omega, by first | decide | omega, by first | decide | omega, ?_⟩
  try (any_goals (exfalso; first | omega | exact absurd trivial (by assumption)))
  refine c_Pa_takeBack g1 k4 g2 k1.2.2.2.2.2.1 (fun e => ?_) (fun f r e v1 f1 f2 f3 => ?_)
  · rw [e] at K
    refine ⟨fun q1 => ?_, fun q2 => ⟨by first | decide | omega, by first | decide | omega, ?_⟩⟩
    try (any_goals (exfalso; first | omega | exact absurd trivial (by assumption)))
    exact K v Fc_rf hA'
  · rw [e] at K g7 g8
    rw [List.length_cons] at g7
    have eh : v1 24 8 = cH (gC s) - 1 := f3.1
    try simp (disch := omega) only [zup_e, zup_ak, zup_j, Int.zero_add, eh]
    refine ⟨fun q1 => ?_, fun q2 => ⟨by first | decide | omega, by first | decide | omega, ?_⟩⟩
    try (any_goals (exfalso; first | omega | exact absurd trivial (by assumption)))
    have h0 := k1.2.2.2.2.1.2
    refine K v1 (fun b q => f1 b (by omega) (by omega) (by omega)) ⟨w, QC_co f1 (Cok_w g2 (g8 f List.mem_cons_self) (by omega)) (by show cH (gC s) - 1 ≤ _; omega) f3 k1, by rw [f1 0 (by omega) (by omega) (by omega)]; exact k2, TP_fr (fun a q => f1 a (by omega) (by omega) (by omega)) k3, f2, TS_fr (fun a q1 q2 => f1 a (by omega) (by omega) (by omega)) k5⟩
theorem c_W_image {s : zSg} (hA : AC v s) (K : ∀ v' : zH, Fc v v' → AC v' (gImage s) → Q (aImage s) v') : zC l G 1 (d + 2) h_W_image [(2, 0)] v 115 Q := by
  have hA' := hA
  obtain ⟨w, k1, k2, k3, k4, k5⟩ := hA
  have hw := k1.2.1
  have w0 := (zwo_f hw).1
  have hn0 := W_n0 k1.2.2.1
  unfold gImage aImage at K
  refine zC_at ok_W_image ck_W_image rfl rfl (sg_W_image_0 ?_)
  try simp (disch := omega) only [zup_e, zup_ak, zup_j, Int.zero_add, k1.1, k1.2.2.2.1.2.2.1]
  refine ⟨by first | decide | omega, by first | decide | omega, by first | decide | omega, ⟨fun q1 => ⟨by first | decide | omega, by first | decide | omega, by first | decide | omega, ?_⟩, fun q2 => ?_⟩⟩
  try (any_goals (exfalso; first | omega | exact absurd trivial (by assumption)))
  · rw [if_pos (by omega), if_pos (by omega)] at K
    refine c_Pa_draw k1.2.2.1 k4 k1.2.2.2.2.2.1 (fun v1 f1 f2 => ?_)
    have eh : v1 24 8 = cH (gC s) := by rw [f1 24 (by omega) (by omega)]; exact k1.2.2.2.2.2.1.1
    try simp (disch := omega) only [zup_e, zup_ak, zup_j, Int.zero_add, eh]
    refine ⟨by first | decide | omega, by first | decide | omega, ?_⟩
    exact K v1 (fun b q => f1 b (by omega) (by omega)) ⟨w, QC_fr' (fun b q => f1 b (by omega) (by omega)) k1, by rw [f1 0 (by omega) (by omega)]; exact k2, TP_fr (fun a q => f1 a (by omega) (by omega)) k3, f2, TS_fr (fun a q1 q2 => f1 a (by omega) (by omega)) k5⟩
  · rw [if_neg (by omega), if_neg (by omega)] at K
    exact K v Fc_rf hA'
theorem c_W_back {s : zSg} {B : Int} (hG : GOk s B) (hB : B ≤ 900000) (hA : AC v s) (K : ∀ v' : zH, Fc v v' → AC v' (gBack s) → Q (aBack s) v') : zC l G 1 (d + 2) h_W_back [(2, 0)] v 115 Q := by
  have hA' := hA
  obtain ⟨w, k1, k2, k3, k4, k5⟩ := hA
  obtain ⟨g1, g2, g3, g4, g5, g6, g7, g8, g9⟩ := hG
  unfold gBack aBack at K
  refine zC_at ok_W_back ck_W_back rfl rfl (sg_W_back_0 ?_)
  try simp (disch := omega) only [zup_e, zup_ak, zup_j, Int.zero_add]
  refine ⟨by first | decide | omega, by first | decide | omega, by first | decide | omega, ?_⟩
  try (any_goals (exfalso; first | omega | exact absurd trivial (by assumption)))
  refine c_Pa_comeBack g1 k4 k1.2.2.2.2.2.1 (fun e => ?_) (fun e v1 f1 f2 f3 => ?_)
  · rw [if_neg (by simp [e]), if_neg (by simp [e])] at K
    refine ⟨fun q1 => ?_, fun q2 => ⟨by first | decide | omega, by first | decide | omega, ?_⟩⟩
    try (any_goals (exfalso; first | omega | exact absurd trivial (by assumption)))
    exact K v Fc_rf hA'
  · rw [if_pos e, if_pos e] at K
    have eh : v1 24 8 = (gI s).2.2 := f3.1
    try simp (disch := omega) only [zup_e, zup_ak, zup_j, Int.zero_add, eh]
    refine ⟨fun q1 => ?_, fun q2 => ⟨by first | decide | omega, by first | decide | omega, ?_⟩⟩
    try (any_goals (exfalso; first | omega | exact absurd trivial (by assumption)))
    obtain ⟨i1, i2⟩ := g9 e
    refine K v1 (fun b q => f1 b (by omega) (by omega) (by omega)) ⟨w, QC_co f1 (Cok_w g2 i2 (by omega)) (by show (gI s).2.2 ≤ _; omega) f3 k1, by rw [f1 0 (by omega) (by omega) (by omega)]; exact k2, TP_fr (fun a q => f1 a (by omega) (by omega) (by omega)) k3, f2, TS_fr (fun a q1 q2 => f1 a (by omega) (by omega) (by omega)) k5⟩
theorem c_W_touched {a n x : Int} {s : zSg} {B : Int} (hG : GOk s B) (hA : AC v s) (K : ∀ v' : zH, Fc v v' → AC v' (gTouched s a n x) → Q (aTouched s a n x) v') : zC l G 1 (d + 2) h_W_touched [(2, 0), (0, a), (0, n), (0, x)] v 115 Q := by
  have hA' := hA
  obtain ⟨w, k1, k2, k3, k4, k5⟩ := hA
  have hw := k1.2.1
  have w0 := (zwo_f hw).1
  have hT := hG.2.2.2.2.1
  have neg : ¬ (isc (wR (gW s)) (wC (gW s)) a = true ∧ (0 ≤ n ∧ n ≤ 48) ∧ (0 ≤ x ∧ x ≤ 99) ∧ tN (gT s) ≠ 20) → Q (-1) v := by
    intro h
    unfold gTouched aTouched at K
    rw [if_neg (fun r => h (touP_iff.mp r)), if_neg (fun r => h (touP_iff.mp r))] at K
    exact K v Fc_rf hA'
  have hb := fun h => ix_b (a := a) k1.2.2.1 h
  refine zC_at ok_W_touched ck_W_touched rfl rfl (sg_W_touched_0 ?_)
  try simp (disch := omega) only [zup_e, zup_ak, zup_j, Int.zero_add, k1.1]
  refine ⟨by first | decide | omega, by first | decide | omega, by first | decide | omega, ?_⟩
  try (any_goals (exfalso; first | omega | exact absurd trivial (by assumption)))
  refine c_ix k1 ?_
  by_cases h1 : isc (wR (gW s)) (wC (gW s)) a = true
  rotate_left
  · rw [if_neg h1]
    refine ⟨fun q1 => ?_, fun q2 => ?_⟩
    try (any_goals (exfalso; first | omega | exact absurd trivial (by assumption)))
    exact neg (fun q => h1 q.1)
  rw [if_pos h1]
  have hb := hb h1
  refine ⟨fun q1 => ?_, fun q2 => ?_⟩
  try (any_goals (exfalso; first | omega | exact absurd trivial (by assumption)))
  refine c_W_within ?_
  by_cases h2 : 0 ≤ n ∧ n ≤ 48
  rotate_left
  · rw [if_neg h2]
    refine ⟨fun q1 => ?_, fun q2 => ?_⟩
    try (any_goals (exfalso; first | omega | exact absurd trivial (by assumption)))
    exact neg (fun q => h2 q.2.1)
  rw [if_pos h2]
  refine ⟨fun q1 => ?_, fun q2 => ?_⟩
  try (any_goals (exfalso; first | omega | exact absurd trivial (by assumption)))
  refine c_W_within ?_
  by_cases h3 : 0 ≤ x ∧ x ≤ 99
  rotate_left
  · rw [if_neg h3]
    refine ⟨fun q1 => ⟨by first | decide | omega, by first | decide | omega, ?_⟩, fun q2 => ?_⟩
    try (any_goals (exfalso; first | omega | exact absurd trivial (by assumption)))
    exact neg (fun q => h3 q.2.2.1)
  rw [if_pos h3]
  try simp (disch := omega) only [zup_e, zup_ak, zup_j, Int.zero_add]
  refine ⟨fun q1 => ⟨by first | decide | omega, by first | decide | omega, ?_⟩, fun q2 => ?_⟩
  try (any_goals (exfalso; first | omega | exact absurd trivial (by assumption)))
  refine c_To_tell hT k5 (fun e => ?_) (fun e v1 f1 f2 => ?_)
  · refine ⟨fun q1 => ?_, fun q2 => ⟨by first | decide | omega, by first | decide | omega, ?_⟩⟩
    try (any_goals (exfalso; first | omega | exact absurd trivial (by assumption)))
    exact neg (fun q => q.2.2.2 e)
  · unfold gTouched aTouched at K
    have hp := touP_iff.mpr ⟨h1, h2, h3, e⟩
    rw [if_pos hp, if_pos hp] at K
    have en : v1 45 3 = tN (gT s) + 1 := f2.1
    try simp (disch := omega) only [zup_e, zup_ak, zup_j, Int.zero_add, en]
    refine ⟨fun q1 => ?_, fun q2 => ⟨by first | decide | omega, by first | decide | omega, ?_⟩⟩
    try (any_goals (exfalso; first | omega | exact absurd trivial (by assumption)))
    exact K v1 (fun b q => f1 b (by omega) (by omega) (by omega) (by omega)) ⟨w, QC_fr' (fun b q => f1 b (by omega) (by omega) (by omega) (by omega)) k1, by rw [f1 0 (by omega) (by omega) (by omega) (by omega)]; exact k2, TP_fr (fun a q => f1 a (by omega) (by omega) (by omega) (by omega)) k3, PS_fr (fun a q1 q2 => f1 a (by omega) (by omega) (by omega) (by omega)) k4, f2⟩
end
