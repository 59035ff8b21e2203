/-! WHAT HOLDS OF THE STATE IS KEPT -/
theorem GOk_le {s : zSg} {B B' : Int} (h : B ≤ B') (k : GOk s B) : GOk s B' := by
  obtain ⟨k1, k2, k3, k4, k5, k6, k7, k8, k9⟩ := k
  exact ⟨k1, k2, by omega, k4, k5, k6, k7, k8, fun e => ⟨⟨(k9 e).1.1, by have := (k9 e).1.2; omega⟩, (k9 e).2⟩⟩
theorem GOk_X {s : zSg} {B : Int} {X : zTp} (hX : tOk X) (k : GOk s B) : GOk (X, gW s, gC s, gS s, gL s, gI s, gT s) B := by
  obtain ⟨k1, k2, k3, k4, k5, k6, k7, k8, k9⟩ := k
  exact ⟨k1, k2, k3, hX, k5, k6, k7, k8, k9⟩
theorem GOk_feed {s : zSg} {B a b c d e : Int} (k : GOk s B) : GOk (gFeedX (gX s) a b c d e, gW s, gC s, gS s, gL s, gI s, gT s) B := by
  refine GOk_X ?_ k
  have ht := k.2.2.2.1
  unfold gFeedX
  split
  · rename_i h
    have b1 := bin_b a
    have b2 := bin_b b
    have b3 := bin_b c
    have b4 := bin_b d
    have b5 := bin_b e
    have n1 := tAw_n (X := gX s) (w := a)
    have n2 := tAw_n (X := tAw (gX s) a) (w := b)
    have n3 := tAw_n (X := tAw (tAw (gX s) a) b) (w := c)
    have n4 := tAw_n (X := tAw (tAw (tAw (gX s) a) b) c) (w := d)
    exact tAw_ok (tAw_ok (tAw_ok (tAw_ok (tAw_ok ht (by omega)) (by omega)) (by omega)) (by omega)) (by omega)
  · exact ht
theorem GOk_end {s : zSg} {B n : Int} (k : GOk s B) : GOk (if 0 ≤ n ∧ n ≤ (gX s).2 then ((gX s).1, n) else gX s, gW s, gC s, gS s, gL s, gI s, gT s) B := by
  refine GOk_X ?_ k
  have ht := k.2.2.2.1
  split
  · rename_i h
    exact ⟨by show 0 ≤ n ∧ n ≤ 160; have := ht.1; omega, fun j h1 h2 => by have h2 : j < n := h2; exact ht.2 j h1 (by omega)⟩
  · exact ht
theorem tOk_0 {f : Int → Int} : tOk (f, 0) := ⟨by show (0 : Int) ≤ 0 ∧ (0 : Int) ≤ 160; omega, fun j h1 h2 => by have h2 : j < 0 := h2; omega⟩
theorem GOk_text {s : zSg} {B n : Int} (hB : 0 ≤ B) (k : GOk s B) : GOk (gText s n) B := by
  obtain ⟨k1, k2, k3, k4, k5, k6, k7, k8, k9⟩ := id k
  unfold gText
  split
  · unfold gTextW
    cases h : pWl (gX s) with
    | error e => exact k
    | ok D =>
      obtain ⟨hd, hs⟩ := (pWl_gd (X := gX s) (by have := k4.1; omega)).2 D h
      obtain ⟨hW, hc, hR⟩ := dWl_ok hd hs
      exact ⟨hW, hc, by show (0 : Int) ≤ B; omega, tOk_0, ⟨by show (0 : Int) ≤ 0 ∧ (0 : Int) ≤ 20; omega, fun j h1 h2 => by have h2 : j < 0 := h2; omega⟩, ⟨k6.1, k6.2.1, k6.2.2.1, k6.2.2.2⟩, ⟨by show ((0 : Nat) : Int) ≤ 0; omega, by show (0 : Nat) ≤ 60; omega⟩, (fun f hf => by cases hf), (fun e => by cases e)⟩
  · split
    · unfold gTextL
      split
      · exact k
      · rename_i hne
        cases h : pLaw (gX s) with
        | error e => exact k
        | ok P =>
          obtain ⟨p1, p2⟩ := (pLaw_gd k4).2 P h
          have hx := k4.1
          refine ⟨k1, k2, k3, tOk_0, k5, ⟨?_, fun R hR => ?_, k6.2.2.1, ?_⟩, k7, k8, k9⟩
          · show (kA (gS s) ++ [P]).length ≤ 4
            rw [List.length_append]
            have := k6.1
            show (kA (gS s)).length + 1 ≤ 4
            omega
          · have hR : R ∈ kA (gS s) ++ [P] := hR
            rcases List.mem_append.mp hR with h' | h'
            · exact k6.2.1 R h'
            · rw [List.mem_singleton.mp h']
              exact ⟨p1, by omega⟩
          · show kH (gS s) < ((kA (gS s) ++ [P]).length : Nat)
            rw [List.length_append]
            have := k6.2.2.2
            show kH (gS s) < (((kA (gS s)).length + 1 : Nat) : Int)
            omega
    · exact k
theorem GOk_law {s : zSg} {B n : Int} (k : GOk s B) : GOk (gLaw s n) B := by
  obtain ⟨k1, k2, k3, k4, k5, k6, k7, k8, k9⟩ := id k
  unfold gLaw
  split
  · rename_i h
    exact ⟨k1, k2, k3, k4, k5, ⟨k6.1, k6.2.1, h.1, by show n < ((kA (gS s)).length : Int); omega⟩, k7, k8, k9⟩
  · exact k
theorem GOk_rain {s : zSg} {B h b : Int} (k : GOk s B) : GOk (gRain s h b) B := by
  obtain ⟨k1, k2, k3, k4, k5, k6, k7, k8, k9⟩ := id k
  unfold gRain
  by_cases hc : 0 < wR (gW s) ∧ (0 ≤ h ∧ h ≤ 23) ∧ ¬ (if sRain (kR (gS s)) h then (1 : Int) else 0) = b
  · rw [if_pos hc]
    exact ⟨k1, k2, k3, k4, k5, ⟨k6.1, k6.2.1, k6.2.2.1, k6.2.2.2⟩, k7, k8, k9⟩
  · rw [if_neg hc]
    exact k
theorem GOk_warm {s : zSg} {B a x : Int} (k : GOk s B) : GOk (gWarm s a x) B := by
  obtain ⟨k1, k2, k3, k4, k5, k6, k7, k8, k9⟩ := id k
  unfold gWarm
  split
  · rename_i h
    refine ⟨k1, ⟨k2.1, fun b h3 h4 => ?_, k2.2.2⟩, k3, k4, k5, k6, k7, k8, k9⟩
    have hq := k2.2.1 b h3 h4
    refine ⟨hq.1, ?_⟩
    show 0 ≤ upf (cW (gC s)) (ixn (wC (gW s)) a) x b ∧ upf (cW (gC s)) (ixn (wC (gW s)) a) x b ≤ wT (gW s) (3 * cS (gC s) b + 1)
    by_cases e : b = ixn (wC (gW s)) a
    · rw [e, upf_s]
      exact h.2
    · rw [upf_n e]
      exact hq.2
  · exact k
theorem GOk_bake {s : zSg} {B o f u : Int} (k : GOk s B) : GOk (gBake s o f u) B := by
  obtain ⟨k1, k2, k3, k4, k5, k6, k7, k8, k9⟩ := id k
  unfold gBake
  split
  · rename_i h
    exact ⟨k1, Cok_ovn k2 h.2.1 h.2.2, k3, k4, k5, k6, k7, k8, k9⟩
  · exact k
theorem hOk_s {W : zWl} {c c' : zCo} {f : Int → Int} (e : cS c' = cS c) (h : hOk W c f) : hOk W c' f := by
  unfold hOk
  rw [e]
  exact h
theorem sHr_ok {W : zWl} {S : zSk} {c : zCo} {L : zPa} (hW : Wok W) (hc : Cok W c) : ∀ n : Nat, cH c + n ≤ 1000000 → ((L.length : Int) ≤ cH c ∧ L.length ≤ 60) → (∀ f ∈ L, hOk W c f) → (((sHr W S c L n).length : Int) ≤ cH c + n ∧ (sHr W S c L n).length ≤ 60) ∧ ∀ f ∈ sHr W S c L n, hOk W c f
  | 0, hn, hl, hf => ⟨⟨by show (L.length : Int) ≤ cH c + 0; omega, hl.2⟩, hf⟩
  | n + 1, hn, hl, hf => by
    have ih := sHr_ok (S := S) hW hc n (by omega) hl hf
    have e : sHr W S c L (n + 1) = cW (sSt W (sSn S) (kR S) c n) :: (sHr W S c L n).take 59 := rfl
    rw [e]
    refine ⟨⟨?_, ?_⟩, fun f hf => ?_⟩
    · rw [List.length_cons, List.length_take]
      omega
    · rw [List.length_cons, List.length_take]
      omega
    · rcases List.mem_cons.mp hf with h | h
      · rw [h]
        have hs := Cok_st (sn := sSn S) (rn := kR S) snOk_S hW hc n (by omega)
        intro a a1 a2
        have := (hs.2.1 a a1 a2).2
        rw [(sSt_k n).1] at this
        exact this
      · exact ih.2 f (List.mem_of_mem_take h)
theorem GOk_hours {s : zSg} {B n : Int} (hB : B ≤ 900000) (k : GOk s B) : GOk (gHours s n) (B + 72) := by
  have k' := GOk_le (show B ≤ B + 72 by omega) k
  obtain ⟨k1, k2, k3, k4, k5, k6, k7, k8, k9⟩ := id k
  unfold gHours
  split
  · rename_i h
    obtain ⟨m, rfl⟩ : ∃ m : Nat, n = m := ⟨n.toNat, by omega⟩
    rw [Int.toNat_natCast]
    have hs := sHr_ok (S := gS s) k1 k2 m (by omega) k7 k8
    have hH := sSt_H (W := gW s) (sn := sSn (gS s)) (rn := kR (gS s)) (c := gC s) m
    have hS := (sSt_k (W := gW s) (sn := sSn (gS s)) (rn := kR (gS s)) (c := gC s) m).1
    refine ⟨k1, Cok_st snOk_S k1 k2 m (by omega), ?_, k4, k5, k6, ⟨?_, hs.1.2⟩, fun f hf => hOk_s hS (hs.2 f hf), fun e => ⟨⟨(k9 e).1.1, by have := (k9 e).1.2; show (gI s).2.2 ≤ B + 72; omega⟩, hOk_s hS (k9 e).2⟩⟩
    · show cH (sSt (gW s) (sSn (gS s)) (kR (gS s)) (gC s) m) ≤ B + 72
      omega
    · show ((sHr (gW s) (gS s) (gC s) (gL s) m).length : Int) ≤ cH (sSt (gW s) (sSn (gS s)) (kR (gS s)) (gC s) m)
      rw [hH]
      exact hs.1.1
  · exact k'
theorem GOk_undo {s : zSg} {B : Int} (k : GOk s B) : GOk (gUndo s) B := by
  obtain ⟨k1, k2, k3, k4, k5, k6, k7, k8, k9⟩ := id k
  unfold gUndo
  cases hL : gL s with
  | nil => exact k
  | cons f r =>
    rw [hL, List.length_cons] at k7
    rw [hL] at k8
    have hb := k2.1
    exact ⟨k1, Cok_w k2 (k8 f List.mem_cons_self) (by omega), by show cH (gC s) - 1 ≤ B; omega, k4, k5, k6, ⟨by show (r.length : Int) ≤ cH (gC s) - 1; omega, by show r.length ≤ 60; omega⟩, fun g hg => k8 g (List.mem_cons_of_mem _ hg), k9⟩
theorem GOk_image {s : zSg} {B : Int} (k : GOk s B) : GOk (gImage s) B := by
  obtain ⟨k1, k2, k3, k4, k5, k6, k7, k8, k9⟩ := id k
  unfold gImage
  split
  · exact ⟨k1, k2, k3, k4, k5, k6, k7, k8, fun _ => ⟨⟨k2.1.1, k3⟩, fun a a1 a2 => (k2.2.1 a a1 a2).2⟩⟩
  · exact k
theorem GOk_back {s : zSg} {B : Int} (hB : B ≤ 900000) (k : GOk s B) : GOk (gBack s) B := by
  obtain ⟨k1, k2, k3, k4, k5, k6, k7, k8, k9⟩ := id k
  unfold gBack
  split
  · rename_i h
    obtain ⟨i1, i2⟩ := k9 h
    exact ⟨k1, Cok_w k2 i2 (by omega), i1.2, k4, k5, k6, ⟨i1.1, by show (0 : Nat) ≤ 60; omega⟩, (fun f hf => by cases hf), k9⟩
  · exact k
theorem GOk_touched {s : zSg} {B a n x : Int} (k : GOk s B) : GOk (gTouched s a n x) B := by
  obtain ⟨k1, k2, k3, k4, k5, k6, k7, k8, k9⟩ := id k
  unfold gTouched
  split
  · rename_i h
    obtain ⟨h1, h2, h3, h4⟩ := touP_iff.mp h
    have ht := k5.1
    have h36 := is36 k1 h1
    refine ⟨k1, k2, k3, k4, ⟨by show 0 ≤ tN (gT s) + 1 ∧ tN (gT s) + 1 ≤ 20; omega, fun j j1 j2 => ?_⟩, k6, k7, k8, k9⟩
    have j2 : j < tN (gT s) + 1 := j2
    show (0 ≤ upf (tC (gT s)) (tN (gT s)) (ixn (wC (gW s)) a) j ∧ upf (tC (gT s)) (tN (gT s)) (ixn (wC (gW s)) a) j < wN (gW s)) ∧ (0 ≤ upf (tH (gT s)) (tN (gT s)) n j ∧ upf (tH (gT s)) (tN (gT s)) n j ≤ 48) ∧ 0 ≤ upf (tV (gT s)) (tN (gT s)) x j ∧ upf (tV (gT s)) (tN (gT s)) x j ≤ 99
    by_cases e : j = tN (gT s)
    · subst e
      rw [upf_s, upf_s, upf_s]
      exact ⟨h36.2.2, h2, h3⟩
    · rw [upf_n e, upf_n e, upf_n e]
      exact k5.2 j j1 (by omega)
  · exact k
