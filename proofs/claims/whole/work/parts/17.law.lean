def wL_law (L : Nat) (xs : Nat → Int32) : Prop := True
theorem mL_law (l : Launch) (hstk : l.stackTraces = false) (D : va_G) (Y : Nat → ClassId) (b L : Nat) (xs : Nat → Int32) (E : gE) (C : gOK E l D Y cL_law RL room_1 7) (hscr : gScr E b L xs) (hQ : gLawQ E) (h : wL_law L xs) : gG E 0 0 [] [(0, .ref b)] [] 0 := by
  sorry
