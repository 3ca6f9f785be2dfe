/-- the two worlds as their constructors leave them -/
def zI0 : List (Nat → Int32) := [(fun _ => 0), (fun _ => 0), (fun _ => 0), (fun _ => 0), (fun _ => 0), (fun _ => 0), (fun _ => 0), (fun k => if k < 4 then (-5) else ((fun _ => 0) : Nat → Int32) k), (fun k => if k = 4 then (-5) else 0), (fun _ => 0), (fun _ => 0), (fun _ => 0), (fun _ => 0), (fun _ => 0), (fun _ => 0), (fun _ => 0), (fun _ => 0), (fun _ => 0), (fun _ => 0), (fun _ => 0), (fun _ => 0), (fun _ => 0), (fun _ => 0), (fun k => if k < 4 then (-5) else ((fun _ => 0) : Nat → Int32) k), (fun k => if k = 4 then (-5) else 0), (fun _ => 0), (fun _ => 0), (fun _ => 0), (fun _ => 0), (fun _ => 0), (fun _ => 0), (fun _ => 0), (fun _ => 0), (fun _ => 0), (fun _ => 0), (fun _ => 0), (fun _ => 0), (fun _ => 0), (fun k => if k < 4 then (-5) else ((fun _ => 0) : Nat → Int32) k), (fun k => if k = 4 then (-5) else 0), (fun _ => 0), (fun _ => 0), (fun _ => 0), (fun _ => 0), (fun k => if k = 2 then (-5) else if k = 8 then 1 else 0), (fun _ => 0), (fun _ => 0), (fun _ => 0), (fun _ => 0), (fun _ => 0), (fun k => if k < 6 then (-5) else ((fun _ => 0) : Nat → Int32) k), (fun _ => 0), (fun _ => 0)]
def zI1 : List (Nat → Int32) := [(fun _ => 0), (upd (upd (upd (upd (upd (fun _ => 0) 16 (-5)) 17 (-5)) 18 (-5)) 19 (-5)) 4 (-5)), (fun _ => 0), (fun _ => 0), (fun _ => 0), (fun _ => 0), (fun _ => 0), (fun _ => 0), (fun _ => 0), (fun _ => 0), (fun _ => 0), (fun _ => 0), (upd (upd (upd (upd (upd (upd (fun _ => 0) 0 (-1)) 1 (-1)) 2 (-1)) 3 (-1)) 4 (-1)) 5 (-1)), (fun _ => 0), (fun _ => 0)]
def zS0 : zkS := (fun a => zI0.getD a (fun _ => 0), fun _ => 0)
def zS1 : zkS := (fun a => zI1.getD a (fun _ => 0), fun _ => 0)
def zRel (σ τ : zkS) : Prop := True
theorem T_cell {σ τ : zkS} (hR : zRel σ τ) (p1 : Int32) (p2 : Int32) (p3 : Int32) : ∃ (r : Int32) (σ1 : zkS) (τ1 : zkS), fX7_cell p1 p2 p3 σ = some (r, σ1) ∧ fX8_cell p1 p2 p3 τ = some (r, τ1) ∧ zRel σ1 τ1 := by
  sorry
theorem T_of {σ τ : zkS} (hR : zRel σ τ) (p1 : Int32) (p2 : Int32) : ∃ (r : Int32) (σ1 : zkS) (τ1 : zkS), fX7_of p1 p2 σ = some (r, σ1) ∧ fX8_of p1 p2 τ = some (r, τ1) ∧ zRel σ1 τ1 := by
  sorry
theorem T_field {σ τ : zkS} (hR : zRel σ τ) (p1 : Int32) (p2 : Int32) : ∃ (r : Int32), fX7_field p1 p2 σ = some r ∧ fX8_field p1 p2 τ = some r ∧ zRel σ τ := by
  sorry
theorem T_raw {σ τ : zkS} (hR : zRel σ τ) (p1 : Int32) (p2 : Int32) : ∃ (r : Int32), fX7_raw p1 p2 σ = some r ∧ fX8_raw p1 p2 τ = some r ∧ zRel σ τ := by
  sorry
theorem T_hold {σ τ : zkS} (hR : zRel σ τ) (p1 : Int32) (p2 : Int32) (p3 : Int32) : ∃ (r : Int32) (σ1 : zkS) (τ1 : zkS), fX7_hold p1 p2 p3 σ = some (r, σ1) ∧ fX8_hold p1 p2 p3 τ = some (r, τ1) ∧ zRel σ1 τ1 := by
  sorry
theorem T_tag {σ τ : zkS} (hR : zRel σ τ) (p1 : Int32) (p2 : Int32) : ∃ (r : Int32) (σ1 : zkS) (τ1 : zkS), fX7_tag p1 p2 σ = some (r, σ1) ∧ fX8_tag p1 p2 τ = some (r, τ1) ∧ zRel σ1 τ1 := by
  sorry
theorem T_root {σ τ : zkS} (hR : zRel σ τ) (p1 : Int32) (p2 : Int32) : ∃ (r : Int32) (σ1 : zkS) (τ1 : zkS), fX7_root p1 p2 σ = some (r, σ1) ∧ fX8_root p1 p2 τ = some (r, τ1) ∧ zRel σ1 τ1 := by
  sorry
theorem T_pin {σ τ : zkS} (hR : zRel σ τ) (p1 : Int32) (p2 : Int32) : ∃ (r : Int32) (σ1 : zkS) (τ1 : zkS), fX7_pin p1 p2 σ = some (r, σ1) ∧ fX8_pin p1 p2 τ = some (r, τ1) ∧ zRel σ1 τ1 := by
  sorry
theorem T_feed {σ τ : zkS} (hR : zRel σ τ) (p1 : Int32) : ∃ (r : Int32) (σ1 : zkS) (τ1 : zkS), fX7_feed p1 σ = some (r, σ1) ∧ fX8_feed p1 τ = some (r, τ1) ∧ zRel σ1 τ1 := by
  sorry
theorem T_build {σ τ : zkS} (hR : zRel σ τ) (p1 : Int32) : ∃ (r : Int32) (σ1 : zkS) (τ1 : zkS), fX7_build p1 σ = some (r, σ1) ∧ fX8_build p1 τ = some (r, τ1) ∧ zRel σ1 τ1 := by
  sorry
theorem T_begin {σ τ : zkS} (hR : zRel σ τ) (p1 : Int32) : ∃ (r : Int32) (σ1 : zkS) (τ1 : zkS), fX7_begin p1 σ = (r, σ1) ∧ fX8_begin p1 τ = some (r, τ1) ∧ zRel σ1 τ1 := by
  sorry
theorem T_step {σ τ : zkS} (hR : zRel σ τ) (p1 : Int32) : ∃ (r : Int32) (σ1 : zkS) (τ1 : zkS), fX7_step p1 σ = some (r, σ1) ∧ fX8_step p1 τ = some (r, τ1) ∧ zRel σ1 τ1 := by
  sorry
theorem T_leave {σ τ : zkS} (hR : zRel σ τ) : ∃ (r : Int32) (σ1 : zkS) (τ1 : zkS), fX7_leave σ = (r, σ1) ∧ fX8_leave τ = some (r, τ1) ∧ zRel σ1 τ1 := by
  sorry
theorem T_sweep {σ τ : zkS} (hR : zRel σ τ) : ∃ (r : Int32) (σ1 : zkS) (τ1 : zkS), fX7_sweep σ = some (r, σ1) ∧ fX8_sweep τ = some (r, τ1) ∧ zRel σ1 τ1 := by
  sorry
theorem T_told {σ τ : zkS} (hR : zRel σ τ) (p1 : Int32) : ∃ (r : Int32) (σ1 : zkS) (τ1 : zkS), fX7_told p1 σ = some (r, σ1) ∧ fX8_told_ p1 τ = some (r, τ1) ∧ zRel σ1 τ1 := by
  sorry
theorem T_on {σ τ : zkS} (hR : zRel σ τ) (p1 : Int32) (p2 : Int32) : ∃ (r : Int32) (σ1 : zkS) (τ1 : zkS), fX7_on p1 p2 σ = some (r, σ1) ∧ fX8_on p1 p2 τ = some (r, τ1) ∧ zRel σ1 τ1 := by
  sorry
theorem T_need {σ τ : zkS} (hR : zRel σ τ) (p1 : Int32) (p2 : Int32) : ∃ (r : Int32) (σ1 : zkS) (τ1 : zkS), fX7_need p1 p2 σ = some (r, σ1) ∧ fX8_need p1 p2 τ = some (r, τ1) ∧ zRel σ1 τ1 := by
  sorry
theorem T_least {σ τ : zkS} (hR : zRel σ τ) (p1 : Int32) : ∃ (r : Int32) (σ1 : zkS) (τ1 : zkS), fX7_least p1 σ = some (r, σ1) ∧ fX8_least p1 τ = some (r, τ1) ∧ zRel σ1 τ1 := by
  sorry
theorem T_see {σ τ : zkS} (hR : zRel σ τ) (p1 : Int32) (p2 : Int32) (p3 : Int32) : ∃ (r : Int32) (σ1 : zkS) (τ1 : zkS), fX7_see p1 p2 p3 σ = some (r, σ1) ∧ fX8_see p1 p2 p3 τ = some (r, τ1) ∧ zRel σ1 τ1 := by
  sorry
theorem T_fits {σ τ : zkS} (hR : zRel σ τ) (p1 : Int32) : ∃ (r : Int32) (σ1 : zkS) (τ1 : zkS), fX7_fits p1 σ = some (r, σ1) ∧ fX8_fits p1 τ = some (r, τ1) ∧ zRel σ1 τ1 := by
  sorry
theorem T_can {σ τ : zkS} (hR : zRel σ τ) (p1 : Int32) (p2 : Int32) (p3 : Int32) : ∃ (r : Int32) (σ1 : zkS) (τ1 : zkS), fX7_can p1 p2 p3 σ = some (r, σ1) ∧ fX8_can p1 p2 p3 τ = some (r, τ1) ∧ zRel σ1 τ1 := by
  sorry
theorem T_odds {σ τ : zkS} (hR : zRel σ τ) (p1 : Int32) (p2 : Int32) : ∃ (r : Int64) (σ1 : zkS) (τ1 : zkS), fX7_odds p1 p2 σ = some (r, σ1) ∧ fX8_odds p1 p2 τ = some (r, τ1) ∧ zRel σ1 τ1 := by
  sorry
theorem T_mean {σ τ : zkS} (hR : zRel σ τ) (p1 : Int32) : ∃ (r : Int64) (σ1 : zkS), fX7_mean p1 σ = some (r, σ1) ∧ fX8_mean p1 τ = some r ∧ zRel σ1 τ := by
  sorry
theorem T_plan {σ τ : zkS} (hR : zRel σ τ) (p1 : Int32) (p2 : Int32) : ∃ (r : Int32) (σ1 : zkS) (τ1 : zkS), fX7_plan p1 p2 σ = some (r, σ1) ∧ fX8_plan p1 p2 τ = some (r, τ1) ∧ zRel σ1 τ1 := by
  sorry
theorem T_ends {σ τ : zkS} (hR : zRel σ τ) : ∃ (r : Int32) (σ1 : zkS) (τ1 : zkS), fX7_ends σ = some (r, σ1) ∧ fX8_ends τ = some (r, τ1) ∧ zRel σ1 τ1 := by
  sorry
theorem T_book {σ τ : zkS} (hR : zRel σ τ) (p1 : Int32) (p2 : Int32) (p3 : Int32) : ∃ (r : Int32) (σ1 : zkS) (τ1 : zkS), fX7_book p1 p2 p3 σ = some (r, σ1) ∧ fX8_book p1 p2 p3 τ = some (r, τ1) ∧ zRel σ1 τ1 := by
  sorry
theorem T_looked {σ τ : zkS} (hR : zRel σ τ) : ∃ (r : Int32), fX7_looked σ = some r ∧ fX8_looked τ = some r ∧ zRel σ τ := by
  sorry
theorem T_judge {σ τ : zkS} (hR : zRel σ τ) (p1 : Int32) (p2 : Int32) : ∃ (r : Int32), fX7_judge p1 p2 σ = some r ∧ fX8_judge p1 p2 τ = some r ∧ zRel σ τ := by
  sorry
theorem T_image {σ τ : zkS} (hR : zRel σ τ) : ∃ (r : Int32) (σ1 : zkS) (τ1 : zkS), fX7_image σ = some (r, σ1) ∧ fX8_image τ = some (r, τ1) ∧ zRel σ1 τ1 := by
  sorry
theorem T_undo {σ τ : zkS} (hR : zRel σ τ) : ∃ (r : Int32) (σ1 : zkS) (τ1 : zkS), fX7_undo σ = some (r, σ1) ∧ fX8_undo τ = some (r, τ1) ∧ zRel σ1 τ1 := by
  sorry
theorem T_taken {σ τ : zkS} (hR : zRel σ τ) (p1 : Int32) (p2 : Int32) : ∃ (r : Int32), fX7_taken p1 p2 σ = some r ∧ fX8_taken p1 p2 τ = some r ∧ zRel σ τ := by
  sorry
theorem T_count {σ τ : zkS} (hR : zRel σ τ) (p1 : Int32) : ∃ (r : Int32), fX7_count p1 σ = r ∧ fX8_count p1 τ = some r ∧ zRel σ τ := by
  sorry
theorem T_tape {σ τ : zkS} (hR : zRel σ τ) (p1 : Int32) (p2 : Int32) (p3 : Int32) : ∃ (r : Int32) (σ1 : zkS) (τ1 : zkS), fX7_tape p1 p2 p3 σ = some (r, σ1) ∧ fX8_tape p1 p2 p3 τ = some (r, τ1) ∧ zRel σ1 τ1 := by
  sorry
theorem T_item {σ τ : zkS} (hR : zRel σ τ) (p1 : Int32) (p2 : Int32) (p3 : Int64) : ∃ (r : Int32) (σ1 : zkS) (τ1 : zkS), fX7_item p1 p2 p3 σ = some (r, σ1) ∧ fX8_item p1 p2 p3 τ = some (r, τ1) ∧ zRel σ1 τ1 := by
  sorry
theorem T_read {σ τ : zkS} (hR : zRel σ τ) (p1 : Int32) (p2 : Int32) : ∃ (r : Int64), fX7_read p1 p2 σ = some r ∧ fX8_read p1 p2 τ = some r ∧ zRel σ τ := by
  sorry
theorem T_shift {σ τ : zkS} (hR : zRel σ τ) (p1 : Int32) (p2 : Int32) (p3 : Int32) (p4 : Int32) (p5 : Int32) : ∃ (r : Int32) (σ1 : zkS) (τ1 : zkS), fX7_shift p1 p2 p3 p4 p5 σ = some (r, σ1) ∧ fX8_shift p1 p2 p3 p4 p5 τ = some (r, τ1) ∧ zRel σ1 τ1 := by
  sorry
theorem T_init : zRel zS0 zS1 := by
  sorry
