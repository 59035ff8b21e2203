/-! THE STATE AT THE START -/
def sW0 : zWl := (0, 0, 0, 0, fun _ => 0, 0, fun _ => 0, 0, fun _ => 0, fun _ => 0)
def sC0 : zCo := (0, fun _ => 0, fun _ => 0, fun _ => 0, fun _ => 0)
def sG0 : zSg := ((fun _ => 0, 0), sW0, sC0, ([], -1, 0), [], (false, fun _ => 0, 0), (0, fun _ => 0, fun _ => 0, fun _ => 0))
theorem Wok_0 : Wok sW0 := by
  refine ⟨⟨?_, ?_⟩, ⟨?_, ?_⟩, rfl, ⟨?_, ?_⟩, fun h => ?_, fun _ => ⟨rfl, rfl⟩, ⟨?_, ?_⟩, ⟨?_, ?_⟩, ⟨?_, ?_⟩, fun s h1 h2 => ?_, fun s h1 h2 => ?_, fun s h1 h2 => ?_, fun s h1 h2 => ?_⟩
  all_goals first | (show (0 : Int) ≤ _; decide) | (have h : (1 : Int) ≤ 0 := h; omega) | (have h2 : s < 0 := h2; omega)
theorem Cok_0 : Cok sW0 sC0 := ⟨⟨by show (0 : Int) ≤ 0; omega, by show (0 : Int) ≤ 1000000; omega⟩, fun a h1 h2 => by have h2 : a < 0 := h2; omega, fun a h1 h2 => by have h2 : a < 0 := h2; omega⟩
theorem Sok_0 : Sok (([], -1, 0) : zSk) := ⟨by show (0 : Nat) ≤ 4; omega, (fun P h => by cases h), by show (-1 : Int) ≤ -1; omega, by show (-1 : Int) < ((0 : Nat) : Int); omega⟩
theorem GOk_0 : GOk sG0 0 := ⟨Wok_0, Cok_0, by show (0 : Int) ≤ 0; omega, tOk_0, ⟨by show (0 : Int) ≤ 0 ∧ (0 : Int) ≤ 20; omega, fun j h1 h2 => by have h2 : j < 0 := h2; omega⟩, Sok_0, ⟨by show ((0 : Nat) : Int) ≤ 0; omega, by show (0 : Nat) ≤ 60; omega⟩, (fun f h => by cases h), fun e => by cases e⟩
theorem AM_0 {v : zH} (h : ∀ k : Int, (k = 2 ∨ k = 13 ∨ (30 ≤ k ∧ k ≤ 34) ∨ k = 36 ∨ k = 37 ∨ k = 46 ∨ k = 56 ∨ k = 62) → v 77 k = 0) (h38 : v 77 38 = -1) (h39 : v 77 39 = -1) : AM v sG0 := by
  have hi : ∀ a : Int, ¬ isc (wR sW0) (wC sW0) a = true := fun a q => by
    have := isc_iff.mp q
    have h2 : a / 10 < 0 := this.2.1
    omega
  refine ⟨⟨⟨Wok_0, ⟨h 30 (by omega), h 31 (by omega), h 32 (by omega), h 33 (by omega), h 34 (by omega), fun j j1 j2 => ?_, fun k k1 k2 => ?_, fun j j1 j2 => ?_⟩, Cok_0, ⟨h 36 (by omega), fun a ha => absurd ha (hi a), fun k k1 k2 => ?_⟩, Sok_0, ⟨h 13 (by omega), h 37 (by omega), h38, fun k P hP => by cases hP⟩⟩, h39, by show (0 : Int) ≤ 900000; omega⟩, ⟨h 2 (by omega), fun j j1 j2 => ?_⟩, ⟨h 46 (by omega), by show (0 : Nat) ≤ 60; omega, fun i f hf => by cases hf⟩, ⟨h 62 (by omega), fun e => by cases e⟩, ⟨h 56 (by omega), fun k k1 k2 => ?_⟩⟩
  · have j2 : j < 3 * 0 := j2
    omega
  · have k2 : k < 0 := k2
    omega
  · have j2 : j < 2 * 0 := j2
    omega
  · have k2 : k < 0 := k2
    omega
  · have j2 : j < 0 := j2
    omega
  · have k2 : k < 0 := k2
    omega
theorem AC_0 {v : zH} (h0 : v 0 10 = 51 ∧ v 0 11 = 64) (h1 : v 1 1 = 0) (h5 : v 5 3 = 0 ∧ v 5 4 = -1 ∧ v 5 5 = 0) (h6 : ∀ k : Int, 0 ≤ k → k < 5 → v 6 k = 9 + 3 * k) (h24 : v 24 8 = 0) (h42 : v 42 2 = 0 ∧ v 42 4 = 0 ∧ v 42 5 = 0) (h45 : v 45 3 = 0) (hw : v 51 9 = 0 ∧ v 51 10 = 0 ∧ v 51 11 = 0 ∧ v 52 6 = 0 ∧ v 54 6 = 0 ∧ v 56 6 = 0) : AC v sG0 := by
  refine ⟨51, ⟨h0.1, Or.inl rfl, Wok_0, ⟨hw.1, hw.2.1, hw.2.2.1, hw.2.2.2.1, hw.2.2.2.2.1, hw.2.2.2.2.2, fun j j1 j2 => ?_, fun j j1 j2 => ?_, fun j j1 j2 => ?_, fun j j1 j2 => ?_⟩, ⟨Cok_0, by show (0 : Int) ≤ 900000; omega⟩, ⟨h24, fun j j1 j2 => ?_, fun j j1 j2 => ?_⟩, Sok_0, ⟨h5.1, h5.2.1, h5.2.2, h6, (fun k P hP => by cases hP), fun q => ?_⟩⟩, h0.2, ⟨h1, fun j j1 j2 => ?_⟩, ⟨0, h42.2.1, by omega, h42.2.2, by show (0 : Nat) ≤ 60; omega, (fun i f hf => by cases hf), h42.1, fun e => by cases e⟩, ⟨h45, fun j j1 j2 => ?_⟩⟩
  · have j2 : j < 3 * 0 := j2
    omega
  · have j2 : j < 5 * 0 := j2
    omega
  · have j2 : j < 2 * 0 := j2
    omega
  · have j2 : j < 0 := j2
    omega
  · have j2 : j < 0 := j2
    omega
  · have j2 : j < 0 := j2
    omega
  · have q : (0 : Int) ≤ -1 := q
    omega
  · have j2 : j < 0 := j2
    omega
  · have j2 : j < 0 := j2
    omega
