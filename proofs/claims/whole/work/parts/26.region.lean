/-! REGIONS: what a method can reach. The class lies in cells 10..131, the model in 132..158. -/
def zrg (m : Bool) (r : Nat) : Prop := if m then 132 ≤ r ∧ r < 159 else 10 ≤ r ∧ r < 132
theorem zrg_step (m : Bool) : (List.range 159).all (fun r => (List.range 36).all (fun k => r < 10 || (match zof (zkd r) k with
  | none => true
  | some o => (if zkd r = 23 ∨ zkd r = 24 then decide (2 ≤ k) else false) || decide (r < 132 ↔ r + o < 132) && decide (r + o < 159)))) = true := by decide +kernel
