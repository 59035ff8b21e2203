/-! THE CLASS: fault, text -/
def aFault (s : zSg) (k : Int) : Int := if k = 0 then (match pWl (gX s) with
    | .error e => e
    | .ok _ => -1) else if k = 1 then (match pLaw (gX s) with
    | .error e => e
    | .ok _ => -1) else -2
def gTextW (s : zSg) : zSg := match pWl (gX s) with
  | .error _ => s
  | .ok D => (((gX s).1, 0), dWl D, dCo D, (kA (gS s), kH (gS s), 0), [], (false, (gI s).2.1, (gI s).2.2), (0, tC (gT s), tH (gT s), tV (gT s)))
def aTextW (s : zSg) : Int := match pWl (gX s) with
  | .error _ => -1
  | .ok D => dR D * dW D 0
def gTextL (s : zSg) : zSg := if (kA (gS s)).length = 4 then s else match pLaw (gX s) with
  | .error _ => s
  | .ok P => (((gX s).1, 0), gW s, gC s, (kA (gS s) ++ [P], kH (gS s), kR (gS s)), gL s, gI s, gT s)
def aTextL (s : zSg) : Int := if (kA (gS s)).length = 4 then -1 else match pLaw (gX s) with
  | .error _ => -1
  | .ok _ => (kA (gS s)).length
def gText (s : zSg) (k : Int) : zSg := if k = 0 then gTextW s else if k = 1 then gTextL s else s
def aText (s : zSg) (k : Int) : Int := if k = 0 then aTextW s else if k = 1 then aTextL s else -1
theorem QC_g {v v' : zH} {w : Int} {W : zWl} {c : zCo} {S : zSk} (h : ∀ b : Int, (b = 0 ∨ (w ≤ b ∧ b ≤ w + 12) ∨ (24 ≤ b ∧ b ≤ 29)) → v' b = v b) (hS : SK v' S) (k : QC v w W c S) : QC v' w W c S := by
  obtain ⟨k1, k2, k3, k4, k5, k6, k7, k8⟩ := k
  refine ⟨?_, k2, k3, WL_fr (fun a h1 h2 => h a (by omega)) k4, k5, CO_fr (fun a q => h a (by omega)) k6, k7, hS⟩
  rw [h 0 (by omega)]
  exact k1
theorem AC_Fw {v v' : zH} {s : zSg} {w : Int} (h : Fw (115 - w) v v') (k1 : QC v w (gW s) (gC s) (gS s)) (k2 : v 0 11 = 115 - w) (k3 : TP v (gX s)) (k4 : PS v (gW s) (gL s) (gI s)) (k5 : TS v (gT s)) : AC v' s := by
  have hw := k1.2.1
  have hw2 : w = 51 ∨ w = 64 := hw
  have hk := k1.2.2.2.2.2.2.1
  have hS := k1.2.2.2.2.2.2.2
  refine ⟨w, QC_g (fun b q => h b (by omega) (by omega)) (SK_fk hk (fun a h1 h2 => h a (by omega) (by omega)) hS) k1, ?_, TP_fr (fun a q => h a (by omega) (by omega)) k3, PS_fr (fun a q1 q2 => h a (by omega) (by omega)) k4, TS_fr (fun a q1 q2 => h a (by omega) (by omega)) k5⟩
  rw [h 0 (by omega) (by omega)]
  exact k2
theorem SK_Fx {v v' : zH} {S : zSk} (hS : Sok S) (h : Fx (9 + 3 * (kA S).length) v v') (k : SK v S) : SK v' S := by
  have hl := hS.1
  obtain ⟨k1, k2, k3, k4, k5, k6⟩ := k
  have e5 := h 5 (by omega) (by omega) (by omega)
  have e6 := h 6 (by omega) (by omega) (by omega)
  have e7 := h 7 (by omega) (by omega) (by omega)
  have e8 := h 8 (by omega) (by omega) (by omega)
  refine ⟨by rw [e5]; exact k1, by rw [e5]; exact k2, by rw [e5]; exact k3, by rw [e6]; exact k4, fun k P hP => ?_, ?_⟩
  · have hkl := (List.getElem?_eq_some_iff.mp hP).1
    have e0 := h (9 + 3 * k) (by omega) (by omega) (by omega)
    have e1 := h (9 + 3 * k + 1) (by omega) (by omega) (by omega)
    obtain ⟨q1, q2, q3⟩ := k5 k P hP
    exact ⟨by rw [e0]; exact q1, CR_fr e1 _ _ q2, by rw [e0]; exact q3⟩
  · unfold Skc at *
    rw [e7, e8]
    exact k6
theorem PS_nil {v : zH} {W W2 : zWl} {I : zIm} (h : I.1 = false) (k : PS v W [] I) : PS v W2 [] I := by
  obtain ⟨nx, k1, k2, k3, k4, k5, k6, k7⟩ := k
  refine ⟨nx, k1, k2, k3, k4, fun i f e => by simp at e, k6, fun e => ?_⟩
  rw [h] at e
  cases e
section
variable {l : Launch} {G : zG} {d : Nat} {v : zH} {Q : Int → zH → Prop}
theorem c_W_fault {k : Int} {s : zSg} {B : Int} (hG : GOk s B) (hA : AC v s) (K : ∀ v' : zH, Fc v v' → AC v' s → Q (aFault s k) v') : zC l G 1 (d + 30) h_W_fault [(2, 0), (0, k)] v 115 Q := by
  have hA' := hA
  obtain ⟨w, k1, k2, k3, k4, k5⟩ := hA
  have hw := k1.2.1
  have hw2 : w = 51 ∨ w = 64 := hw
  have hw' : zwo (115 - w) := by unfold zwo; omega
  have w0 := (zwo_f hw').1
  have hk := k1.2.2.2.2.2.2.1
  have hS := k1.2.2.2.2.2.2.2
  have ht : tOk (gX s) := hG.2.2.2.1
  unfold aFault at K
  refine zC_at ok_W_fault ck_W_fault rfl rfl (sg_W_fault_0 ?_)
  try simp (disch := omega) only [zup_e, zup_ak, zup_j, Int.zero_add, k2]
  refine ⟨fun q1 => ⟨by first | decide | omega, by first | decide | omega, by first | decide | omega, by first | decide | omega, ?_⟩, fun q2 => ⟨fun q3 => ⟨by first | decide | omega, by first | decide | omega, by first | decide | omega, ?_⟩, fun q4 => ?_⟩⟩
  try (any_goals (exfalso; first | omega | exact absurd trivial (by assumption)))
  · rw [if_pos (by assumption)] at K
    refine c_WR_faultOf ht hw' k3 (fun e v1 n1 n2 => ?_) (fun E v1 n1 n2 n3 => ?_)
    · rw [n1] at K
      exact K v1 (fun b q => n2 b (by omega) (by omega)) (AC_Fw n2 k1 k2 k3 k4 k5)
    · rw [n1] at K
      exact K v1 (fun b q => n2 b (by omega) (by omega)) (AC_Fw n2 k1 k2 k3 k4 k5)
  · rw [if_neg (by assumption), if_pos (by assumption)] at K
    have hl := hk.1
    have hL : zlo (9 + 3 * (kA (gS s)).length) := by unfold zlo; omega
    refine c_Sk_draft hk hS ?_
    refine ⟨by first | decide | omega, ?_⟩
    have fin : ∀ v1 : zH, Fx (9 + 3 * (kA (gS s)).length) v v1 → AC v1 s := fun v1 n2 => by
      refine ⟨w, QC_g (fun b q => n2 b (by omega) (by omega) (by omega)) (SK_Fx hk n2 hS) k1, ?_, TP_fr (fun a q => n2 a (by omega) (by omega) (by omega)) k3, PS_fr (fun a q1 q2 => n2 a (by omega) (by omega) (by omega)) k4, TS_fr (fun a q1 q2 => n2 a (by omega) (by omega) (by omega)) k5⟩
      rw [n2 0 (by omega) (by omega) (by omega)]
      exact k2
    refine c_LR_faultOf ht hL k3 (fun e v1 n1 n2 => ?_) (fun E v1 n1 n2 n3 => ?_)
    · rw [n1] at K
      exact K v1 (fun b q => n2 b (by omega) (by omega) (by omega)) (fin v1 n2)
    · rw [n1] at K
      exact K v1 (fun b q => n2 b (by omega) (by omega) (by omega)) (fin v1 n2)
  · rw [if_neg (by assumption), if_neg (by assumption)] at K
    exact K v Fc_rf hA'
theorem c_W_newWall {s : zSg} {B : Int} (hG : GOk s B) (hA : AC v s) (K : ∀ v' : zH, Fc v v' → AC v' (gTextW s) → Q (aTextW s) v') : zC l G 1 (d + 29) h_W_newWall [(2, 0)] v 115 Q := by
  obtain ⟨w, k1, k2, k3, k4, k5⟩ := hA
  have hw := k1.2.1
  have hw2 : w = 51 ∨ w = 64 := hw
  have hw' : zwo (115 - w) := by unfold zwo; omega
  have w0 := (zwo_f hw').1
  have hk := k1.2.2.2.2.2.2.1
  have hS := k1.2.2.2.2.2.2.2
  have ht : tOk (gX s) := hG.2.2.2.1
  have htn := ht.1
  have hgd := pWl_gd (X := gX s) htn.1
  unfold gTextW aTextW at K
  refine zC_at ok_W_newWall ck_W_newWall rfl rfl (sg_W_newWall_0 ?_)
  try simp (disch := omega) only [zup_e, zup_ak, zup_j, Int.zero_add, k2]
  refine ⟨by first | decide | omega, by first | decide | omega, by first | decide | omega, by first | decide | omega, ?_⟩
  try (any_goals (exfalso; first | omega | exact absurd trivial (by assumption)))
  refine c_WR_faultOf ht hw' k3 (fun e v1 n1 n2 => ?_) (fun D v1 n1 n2 n3 => ?_)
  · have he := hgd.1 e n1
    rw [n1] at K
    refine ⟨fun q1 => ⟨by first | decide | omega, by first | decide | omega, by first | decide | omega, by first | decide | omega, by first | decide | omega, by first | decide | omega, by first | decide | omega, by first | decide | omega, by first | decide | omega, ?_⟩, fun q2 => ?_⟩
    try (any_goals (exfalso; first | omega | exact absurd trivial (by assumption)))
    exact K v1 (fun b q => n2 b (by omega) (by omega)) (AC_Fw n2 k1 k2 k3 k4 k5)
  · obtain ⟨hd, hs⟩ := hgd.2 D n1
    obtain ⟨hW, hC, hR⟩ := dWl_ok hd hs
    rw [n1] at K
    simp only at K
    have a1 : v1 0 10 = w := by rw [n2 0 (by omega) (by omega)]; exact k1.1
    have a2 : v1 0 11 = 115 - w := by rw [n2 0 (by omega) (by omega)]; exact k2
    show _
    simp (disch := omega) only [Int.zero_add, zup_e, zup_j, a1, a2]
    refine ⟨fun q1 => ⟨by first | decide | omega, by first | decide | omega, by first | decide | omega, by first | decide | omega, by first | decide | omega, by first | decide | omega, by first | decide | omega, by first | decide | omega, by first | decide | omega, ?_⟩, fun q2 => ?_⟩
    try (any_goals (exfalso; first | omega | exact absurd trivial (by assumption)))
    have hf0 : ∀ b : Int, b ≠ 0 → (zupd (zupd v1 0 11 w) 0 10 (115 - w)) b = v1 b := fun b q => (zup_a q).trans (zup_a q)
    refine c_Wa_lay hw' hd hs (DR_fr (fun b q1 q2 => hf0 b (by omega)) n3) (fun v2 f1 f2 => ?_)
    have hg0 : v2 0 10 = 115 - w := by rw [f1 0 (by omega) (by omega) (by omega) (by omega) (by omega)]; exact zup_s
    have hg1 : v2 0 11 = w := by rw [f1 0 (by omega) (by omega) (by omega) (by omega) (by omega), zup_j (by omega)]; exact zup_s
    show _
    simp only [Int.zero_add, hg0]
    refine ⟨by first | decide | omega, by first | decide | omega, by first | decide | omega, by first | decide | omega, ?_⟩
    refine c_Co_begin hw' hW f2 (fun v3 b1 b2 => ?_)
    refine ⟨by first | decide | omega, by first | decide | omega, ?_⟩
    have hF3 : ∀ b : Int, b ≠ 0 → b ≠ 3 → (b < 24 ∨ 29 < b) → (b < 115 - w ∨ 115 - w + 12 < b) → v3 b = v b := fun b q0 q1 q2 q3 => (b1 b q2).trans ((f1 b (by omega) (by omega) (by omega) (by omega) (by omega)).trans ((hf0 b q0).trans (n2 b q1 q3)))
    have hP3 : PS v3 (gW s) (gL s) (gI s) := PS_fr (fun a q1 q2 => hF3 a (by omega) (by omega) (by omega) (by omega)) k4
    refine c_Pa_forget hP3 (fun v4 e1 e2 => ?_)
    have h4 : v4 0 10 = 115 - w := by rw [e1 0 (by omega), b1 0 (by omega)]; exact hg0
    show _
    simp (disch := omega) only [Int.zero_add, zup_ak, zup_j, h4]
    refine ⟨by first | decide | omega, by first | decide | omega, by first | decide | omega, by first | decide | omega, by first | decide | omega, by first | decide | omega, by first | decide | omega, by first | decide | omega, by first | decide | omega, ?_⟩
    have hu : ∀ b : Int, b ≠ 45 → b ≠ 5 → b ≠ 1 → (zupd (zupd (zupd v4 45 3 0) 5 5 0) 1 1 0) b = v4 b := fun b q1 q2 q3 => (zup_a q3).trans ((zup_a q2).trans (zup_a q1))
    have hu2 : ∀ b : Int, b ≠ 45 → b ≠ 5 → b ≠ 1 → b ≠ 42 → (zupd (zupd (zupd v4 45 3 0) 5 5 0) 1 1 0) b = v3 b := fun b q1 q2 q3 q4 => (hu b q1 q2 q3).trans (e1 b q4)
    generalize hx : zupd (zupd (zupd v4 45 3 0) 5 5 0) 1 1 0 = x at hu hu2
    have x0 : x 0 10 = 115 - w ∧ x 0 11 = w := by
      rw [hu2 0 (by omega) (by omega) (by omega) (by omega), b1 0 (by omega)]
      exact ⟨hg0, hg1⟩
    have hWL : WL x (115 - w) (dWl D) := WL_fr (fun a q1 q2 => (hu2 a (by omega) (by omega) (by omega) (by omega)).trans (b1 a (by omega))) f2
    have xN : x (115 - w) 11 = dR D * dW D 0 := hWL.2.2.1
    rw [hu (115 - w) (by omega) (by omega) (by omega)] at xN
    rw [xN]
    have x5 : ∀ j, j ≠ 5 → x 5 j = v 5 j := fun j q => by rw [← hx, zup_a (by omega), zup_j q, zup_a (by omega), e1 5 (by omega), hF3 5 (by omega) (by omega) (by omega) (by omega)]
    have x55 : x 5 5 = 0 := by rw [← hx, zup_a (by omega)]; exact zup_s
    have xo : ∀ b : Int, 6 ≤ b → b ≤ 20 → x b = v b := fun b q1 q2 => (hu2 b (by omega) (by omega) (by omega) (by omega)).trans (hF3 b (by omega) (by omega) (by omega) (by omega))
    refine K x (fun b q => (hu2 b (by omega) (by omega) (by omega) (by omega)).trans (hF3 b (by omega) (by omega) (by omega) (by omega))) ⟨115 - w, ⟨x0.1, hw', hW, hWL, ⟨hC, by show (0 : Int) ≤ 900000; omega⟩, CO_fr (fun a q => hu2 a (by omega) (by omega) (by omega) (by omega)) b2, hk, ?_⟩, by rw [x0.2]; omega, ⟨?_, fun j h1 h2 => ?_⟩, ?_, ⟨?_, fun j h1 h2 => ?_⟩⟩
    · obtain ⟨s1, s2, s3, s4, s5, s6⟩ := hS
      refine ⟨by rw [x5 3 (by omega)]; exact s1, by rw [x5 4 (by omega)]; exact s2, x55, by rw [xo 6 (by omega) (by omega)]; exact s4, fun k P hP => ?_, ?_⟩
      · have hP : (kA (gS s))[k]? = some P := hP
        have hkl := (List.getElem?_eq_some_iff.mp hP).1
        have hl := hk.1
        have g0 := xo (9 + 3 * k) (by omega) (by omega)
        have g1 := xo (9 + 3 * k + 1) (by omega) (by omega)
        obtain ⟨q1, q2, q3⟩ := s5 k P hP
        exact ⟨by rw [g0]; exact q1, CR_fr g1 _ _ q2, by rw [g0]; exact q3⟩
      · unfold Skc at *
        rw [xo 7 (by omega) (by omega), xo 8 (by omega) (by omega)]
        exact s6
    · rw [← hx]; exact zup_s
    · have h2 : j < 0 := h2
      omega
    · exact PS_nil rfl (PS_fr (fun a q1 q2 => hu a (by omega) (by omega) (by omega)) e2)
    · rw [← hx, zup_a (by omega), zup_a (by omega)]
      exact zup_s
    · have h2 : j < 0 := h2
      omega
theorem c_W_newLaw {s : zSg} {B : Int} (hG : GOk s B) (hA : AC v s) (K : ∀ v' : zH, Fc v v' → AC v' (gTextL s) → Q (aTextL s) v') : zC l G 1 (d + 29) h_W_newLaw [(2, 0)] v 115 Q := by
  have hA' := hA
  obtain ⟨w, k1, k2, k3, k4, k5⟩ := hA
  have hw := k1.2.1
  have hw2 : w = 51 ∨ w = 64 := hw
  have hk := k1.2.2.2.2.2.2.1
  have hS := k1.2.2.2.2.2.2.2
  have ht : tOk (gX s) := hG.2.2.2.1
  have htn := ht.1
  have hgd := pLaw_gd ht
  have hl := hk.1
  unfold gTextL aTextL at K
  refine zC_at ok_W_newLaw ck_W_newLaw rfl rfl (sg_W_newLaw_0 ?_)
  try simp (disch := omega) only [zup_e, zup_ak, zup_j, Int.zero_add, hS.1]
  refine ⟨by first | decide | omega, by first | decide | omega, ⟨fun q1 => ?_, fun q2 => ⟨by first | decide | omega, by first | decide | omega, by first | decide | omega, ?_⟩⟩⟩
  try (any_goals (exfalso; first | omega | exact absurd trivial (by assumption)))
  rotate_left
  · have h4 : ¬ (kA (gS s)).length = 4 := by omega
    rw [if_neg h4, if_neg h4] at K
    have hL : zlo (9 + 3 * (kA (gS s)).length) := by unfold zlo; omega
    refine c_Sk_draft hk hS ?_
    refine ⟨by first | decide | omega, ?_⟩
    try (any_goals (exfalso; first | omega | exact absurd trivial (by assumption)))
    refine c_LR_faultOf ht hL k3 (fun e v1 n1 n2 => ?_) (fun P v1 n1 n2 n3 => ?_)
    · have he := hgd.1 e n1
      rw [n1] at K
      refine ⟨fun q1 => ⟨by first | decide | omega, by first | decide | omega, by first | decide | omega, by first | decide | omega, ⟨by first | decide | omega, by first | decide | omega⟩, by first | decide | omega, by first | decide | omega, by first | decide | omega, ⟨by first | decide | omega, by first | decide | omega⟩, ?_⟩, fun q2 => ?_⟩
      try (any_goals (exfalso; first | omega | exact absurd trivial (by assumption)))
      refine K v1 (fun b q => n2 b (by omega) (by omega) (by omega)) ⟨w, QC_g (fun b q => n2 b (by omega) (by omega) (by omega)) (SK_Fx hk n2 hS) k1, ?_, TP_fr (fun a q => n2 a (by omega) (by omega) (by omega)) k3, PS_fr (fun a q1 q2 => n2 a (by omega) (by omega) (by omega)) k4, TS_fr (fun a q1 q2 => n2 a (by omega) (by omega) (by omega)) k5⟩
      rw [n2 0 (by omega) (by omega) (by omega)]
      exact k2
    · obtain ⟨p1, p2⟩ := hgd.2 P n1
      rw [n1] at K
      simp only at K
      have hS1 := SK_Fx hk n2 hS
      have e53 : v1 5 3 = (kA (gS s)).length := hS1.1
      show _
      simp (disch := omega) only [Int.zero_add, zup_e, zup_ak, e53]
      refine ⟨fun q1 => ⟨by first | decide | omega, by first | decide | omega, by first | decide | omega, by first | decide | omega, ⟨by first | decide | omega, by first | decide | omega⟩, by first | decide | omega, by first | decide | omega, by first | decide | omega, ⟨by first | decide | omega, by first | decide | omega⟩, ?_⟩, fun q2 => ?_⟩
      try (any_goals (exfalso; first | omega | exact absurd trivial (by assumption)))
      rw [show ((kA (gS s)).length : Int) + 1 - 1 = (kA (gS s)).length by omega]
      have hu : ∀ b : Int, b ≠ 5 → b ≠ 1 → (zupd (zupd v1 1 1 0) 5 3 ((kA (gS s)).length + 1)) b = v1 b := fun b q1 q2 => (zup_a q1).trans (zup_a q2)
      generalize hx : zupd (zupd v1 1 1 0) 5 3 ((kA (gS s)).length + 1) = x at hu
      have x5 : ∀ j, j ≠ 3 → x 5 j = v1 5 j := fun j q => by rw [← hx, zup_j q, zup_a (by omega)]
      have x53 : x 5 3 = (kA (gS s)).length + 1 := by rw [← hx]; exact zup_s
      have x11 : x 1 1 = 0 := by rw [← hx, zup_a (by omega)]; exact zup_s
      have hlen : (kA (gS s) ++ [P]).length = (kA (gS s)).length + 1 := by simp
      have hSok : Sok (kA (gS s) ++ [P], kH (gS s), kR (gS s)) := by
        obtain ⟨o1, o2, o3, o4⟩ := hk
        refine ⟨by show (kA (gS s) ++ [P]).length ≤ 4; omega, fun Y hY => ?_, o3, by show kH (gS s) < ((kA (gS s) ++ [P]).length : Int); omega⟩
        have hY : Y ∈ kA (gS s) ++ [P] := hY
        rw [List.mem_append, List.mem_singleton] at hY
        rcases hY with hY | hY
        · exact o2 Y hY
        · rw [hY]
          exact ⟨p1, by omega⟩
      have hSK : SK x (kA (gS s) ++ [P], kH (gS s), kR (gS s)) := by
        obtain ⟨s1, s2, s3, s4, s5, s6⟩ := hS1
        have xo : ∀ b : Int, 6 ≤ b → x b = v1 b := fun b q => hu b (by omega) (by omega)
        refine ⟨by rw [x53]; show _ = ((kA (gS s) ++ [P]).length : Int); omega, by rw [x5 4 (by omega)]; exact s2, by rw [x5 5 (by omega)]; exact s3, by rw [xo 6 (by omega)]; exact s4, fun k Y hY => ?_, ?_⟩
        · have hY : (kA (gS s) ++ [P])[k]? = some Y := hY
          have hkl := (List.getElem?_eq_some_iff.mp hY).1
          have g0 := xo (9 + 3 * k) (by omega)
          have g1 := xo (9 + 3 * k + 1) (by omega)
          have q : LW v1 (9 + 3 * k) (lFl Y) := by
            by_cases e : k < (kA (gS s)).length
            · rw [List.getElem?_append_left e] at hY
              exact s5 k Y hY
            · have e' : k = (kA (gS s)).length := by omega
              subst e'
              rw [List.getElem?_append_right (Nat.le_refl _), Nat.sub_self] at hY
              cases hY
              exact n3
          obtain ⟨q1, q2, q3⟩ := q
          exact ⟨by rw [g0]; exact q1, CR_fr g1 _ _ q2, by rw [g0]; exact q3⟩
        · intro hH p h1 h2
          have hH : 0 ≤ kH (gS s) := hH
          have o4 := hk.2.2.2
          have es : sLaw (kA (gS s) ++ [P], kH (gS s), kR (gS s)) = sLaw (gS s) := by
            unfold sLaw
            show (kA (gS s) ++ [P]).getD (kH (gS s)).toNat [] = _
            rw [List.getD_eq_getElem?_getD, List.getD_eq_getElem?_getD, List.getElem?_append_left (by omega)]
          rw [es, xo 7 (by omega), xo 8 (by omega)]
          exact s6 hH p h1 h2
      have hq : QC x w (gW s) (gC s) (kA (gS s) ++ [P], kH (gS s), kR (gS s)) := by
        obtain ⟨m1, m2, m3, m4, m5, m6, m7, m8⟩ := k1
        have hv : ∀ b : Int, (b = 0 ∨ (w ≤ b ∧ b ≤ w + 12) ∨ (24 ≤ b ∧ b ≤ 29)) → x b = v b := fun b q => (hu b (by omega) (by omega)).trans (n2 b (by omega) (by omega) (by omega))
        exact ⟨by rw [hv 0 (by omega)]; exact m1, m2, m3, WL_fr (fun a h1 h2 => hv a (by omega)) m4, m5, CO_fr (fun a q => hv a (by omega)) m6, hSok, hSK⟩
      refine K x (fun b q => (hu b (by omega) (by omega)).trans (n2 b (by omega) (by omega) (by omega))) ⟨w, hq, ?_, ⟨x11, fun j h1 h2 => ?_⟩, PS_fr (fun a q1 q2 => (hu a (by omega) (by omega)).trans (n2 a (by omega) (by omega) (by omega))) k4, TS_fr (fun a q1 q2 => (hu a (by omega) (by omega)).trans (n2 a (by omega) (by omega) (by omega))) k5⟩
      · rw [hu 0 (by omega) (by omega), n2 0 (by omega) (by omega) (by omega)]
        exact k2
      · have h2 : j < 0 := h2
        omega
  · have h4 : (kA (gS s)).length = 4 := by omega
    rw [if_pos h4, if_pos h4] at K
    exact K v Fc_rf hA'
theorem c_W_text {k : Int} {s : zSg} {B : Int} (hG : GOk s B) (hA : AC v s) (K : ∀ v' : zH, Fc v v' → AC v' (gText s k) → Q (aText s k) v') : zC l G 1 (d + 30) h_W_text [(2, 0), (0, k)] v 115 Q := by
  by_cases h0 : k = 0
  · have e1 : gText s k = gTextW s := if_pos h0
    have e2 : aText s k = aTextW s := if_pos h0
    rw [e1, e2] at K
    refine zC_at ok_W_text ck_W_text rfl rfl (sg_W_text_0 ?_)
    refine ⟨fun q1 => ⟨by first | decide | omega, ?_⟩, fun q2 => ⟨fun q3 => ⟨by first | decide | omega, ?_⟩, fun q4 => ?_⟩⟩
    try (any_goals (exfalso; first | omega | exact absurd trivial (by assumption)))
    refine c_W_newWall hG hA (fun v1 n1 n2 => ?_)
    exact K v1 n1 n2
  by_cases h1 : k = 1
  · have e1 : gText s k = gTextL s := by unfold gText; rw [if_neg h0, if_pos h1]
    have e2 : aText s k = aTextL s := by unfold aText; rw [if_neg h0, if_pos h1]
    rw [e1, e2] at K
    refine zC_at ok_W_text ck_W_text rfl rfl (sg_W_text_0 ?_)
    refine ⟨fun q1 => ⟨by first | decide | omega, ?_⟩, fun q2 => ⟨fun q3 => ⟨by first | decide | omega, ?_⟩, fun q4 => ?_⟩⟩
    try (any_goals (exfalso; first | omega | exact absurd trivial (by assumption)))
    refine c_W_newLaw hG hA (fun v1 n1 n2 => ?_)
    exact K v1 n1 n2
  · have e1 : gText s k = s := by unfold gText; rw [if_neg h0, if_neg h1]
    have e2 : aText s k = -1 := by unfold aText; rw [if_neg h0, if_neg h1]
    rw [e1, e2] at K
    refine zC_at ok_W_text ck_W_text rfl rfl (sg_W_text_0 ?_)
    refine ⟨fun q1 => ⟨by first | decide | omega, ?_⟩, fun q2 => ⟨fun q3 => ⟨by first | decide | omega, ?_⟩, fun q4 => ?_⟩⟩
    try (any_goals (exfalso; first | omega | exact absurd trivial (by assumption)))
    exact K v Fc_rf hA
end
