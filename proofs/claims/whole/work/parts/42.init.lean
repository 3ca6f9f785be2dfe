/-- the two worlds as their constructors leave them -/
def zI0 : List (Nat → Int32) := [(fun _ => 0), (fun _ => 0), (fun _ => 0), (fun _ => 0), (fun _ => 0), (fun _ => 0), (fun _ => 0), (fun k => if k < 4 then (-5) else ((fun _ => 0) : Nat → Int32) k), (fun k => if k = 4 then (-5) else 0), (fun _ => 0), (fun _ => 0), (fun _ => 0), (fun _ => 0), (fun _ => 0), (fun _ => 0), (fun _ => 0), (fun _ => 0), (fun _ => 0), (fun _ => 0), (fun _ => 0), (fun _ => 0), (fun _ => 0), (fun _ => 0), (fun k => if k < 4 then (-5) else ((fun _ => 0) : Nat → Int32) k), (fun k => if k = 4 then (-5) else 0), (fun _ => 0), (fun _ => 0), (fun _ => 0), (fun _ => 0), (fun _ => 0), (fun _ => 0), (fun _ => 0), (fun _ => 0), (fun _ => 0), (fun _ => 0), (fun _ => 0), (fun _ => 0), (fun _ => 0), (fun k => if k < 4 then (-5) else ((fun _ => 0) : Nat → Int32) k), (fun k => if k = 4 then (-5) else 0), (fun _ => 0), (fun _ => 0), (fun _ => 0), (fun _ => 0), (fun k => if k = 2 then (-5) else if k = 8 then 1 else 0), (fun _ => 0), (fun _ => 0), (fun _ => 0), (fun _ => 0), (fun _ => 0), (fun k => if k < 6 then (-5) else ((fun _ => 0) : Nat → Int32) k), (fun _ => 0), (fun _ => 0)]
def zI1 : List (Nat → Int32) := [(fun _ => 0), (upd (upd (upd (upd (upd (fun _ => 0) 16 (-5)) 17 (-5)) 18 (-5)) 19 (-5)) 4 (-5)), (fun _ => 0), (fun _ => 0), (fun _ => 0), (fun _ => 0), (fun _ => 0), (fun _ => 0), (fun _ => 0), (fun _ => 0), (fun _ => 0), (fun _ => 0), (upd (upd (upd (upd (upd (upd (fun _ => 0) 0 (-1)) 1 (-1)) 2 (-1)) 3 (-1)) 4 (-1)) 5 (-1)), (fun _ => 0), (fun _ => 0)]
def zS0 : zkS := (fun a => zI0.getD a (fun _ => 0), fun _ => 0)
def zS1 : zkS := (fun a => zI1.getD a (fun _ => 0), fun _ => 0)
theorem i1_0 : ∀ j, j < 346 → j ≠ 4 → ¬ (16 ≤ j ∧ j < 20) → zS1.1 1 j = 0 := by decide +kernel
theorem i1_r : ∀ r, r < 4 → zS1.1 1 (16 + r) = -5 := by decide +kernel
theorem T_init : zRel zS0 zS1 := by
  have w0 : ∀ j, j < 346 → j ≠ 4 → ¬ (16 ≤ j ∧ j < 20) → zS1.1 1 j = 0 := i1_0
  refine ⟨⟨⟨rfl, rfl, rfl, fun c hc => ⟨?_, ?_, ?_⟩, fun c i hc hb => ?_, fun r hr => ?_⟩, ⟨rfl, rfl, rfl, rfl, rfl, rfl, rfl, rfl, rfl, rfl, rfl, fun q => absurd q (by decide), fun _ => ⟨rfl, rfl, 0, by omega, rfl⟩, fun c hc _ => ?_⟩, ?_, ⟨⟨0, by omega, rfl, fun i hi => ?_, fun i hi => ?_⟩, fun c hc => ⟨⟨0, by omega, ?_⟩, ⟨0, by omega, ?_⟩, ⟨0, by omega, ?_⟩, fun q => ?_⟩, fun c i hc hb => ?_, fun r hr => ?_⟩, Or.inl rfl, Or.inl rfl, fun i hi => ?_, fun i hi => ?_, fun c hc => ⟨⟨0, by omega, ?_⟩, fun _ => ?_⟩, fun q => absurd q (by decide), fun q => absurd q (by decide)⟩, ⟨rfl, Or.inl rfl, fun q => absurd q (by decide)⟩, ⟨0, by omega, rfl, rfl, fun k hk => by omega⟩, fun t ht => ⟨0, by omega, ?_, ?_, Or.inl ⟨?_, ?_, rfl⟩, fun k hk => by omega⟩⟩
  · rw [w0 (20 + c) (by omega) (by omega) (by omega)]
    rfl
  · rw [w0 (44 + c) (by omega) (by omega) (by omega)]
    rfl
  · rw [w0 (68 + c) (by omega) (by omega) (by omega)]
    rfl
  · rw [w0 1 (by omega) (by omega) (by omega), b_0] at hb
    cases hb
  · rw [i1_r r hr]
    exact (by decide +kernel : ∀ r, r < 4 → zS0.1 7 r = -5) r hr
  · rw [w0 (92 + c) (by omega) (by omega) (by omega)]
    rfl
  · exact ⟨⟨rfl, 0, by omega, rfl, fun j hj => by omega, fun k hk => by omega⟩, ⟨rfl, 0, by omega, rfl, fun k hk => by omega⟩, rfl, 0, by omega, rfl, fun j hj => by omega, fun k hk => by omega⟩
  · rw [w0 1 (by omega) (by omega) (by omega), b_0] at hi
    cases hi
  · rw [w0 14 (by omega) (by omega) (by omega), b_0] at hi
    cases hi
  · exact w0 (20 + c) (by omega) (by omega) (by omega)
  · exact w0 (44 + c) (by omega) (by omega) (by omega)
  · exact w0 (68 + c) (by omega) (by omega) (by omega)
  · rw [w0 (20 + c) (by omega) (by omega) (by omega)] at q
    exact absurd q (by decide)
  · rw [w0 1 (by omega) (by omega) (by omega), b_0] at hb
    cases hb
  · rw [i1_r r hr]
    exact Or.inl rfl
  · rw [w0 12 (by omega) (by omega) (by omega), b_0] at hi
    cases hi
  · rw [w0 13 (by omega) (by omega) (by omega), b_0] at hi
    cases hi
  · exact w0 (92 + c) (by omega) (by omega) (by omega)
  · exact w0 (92 + c) (by omega) (by omega) (by omega)
  · exact (by decide +kernel : ∀ t, t < 6 → zS0.1 51 t = nI 0) t ht
  · exact (by decide +kernel : ∀ t, t < 6 → zS1.1 13 t = nI 0) t ht
  · exact (by decide +kernel : ∀ t, t < 6 → zS1.1 12 t = -1) t ht
  · exact (by decide +kernel : ∀ t, t < 6 → zS0.1 50 t = -5) t ht
