def sh : Nat → Nat × Nat := fun k => match k with
  | 0 => (5, 11)
  | _ => (100, 4)
