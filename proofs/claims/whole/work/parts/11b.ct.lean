theorem CT_mend (z n i0 : Nat) (hi0 : i0 < n) (hn : n ≤ 11) (I : Nat → Nat → Int32) (C : CT z n I) (u : Int32) : CT z n (u2 (u2 (u2 (u2 I (aN z n i0) 2 0) (aT z n i0) 6 u) (aJ z n 9) i0 0) (aJ z n 2) i0 u) := by
  intro i hi
  obtain ⟨c1, c2, c3, c4, c5, c6, c7, c8, c9, c10, c11, c12, c13⟩ := C i hi
  by_cases e : i = i0
  · subst e
    simp (disch := first | omega | (simp only [aT, aN, aA, aJ, aM, aF, aFl, aFs]; omega)) only [u2n, u2s]
    exact ⟨c1, c2, c3, trivial, c5, c6, c7, c8, trivial, c10, c11, c12, Or.inl trivial⟩
  · simp (disch := first | omega | (simp only [aT, aN, aA, aJ, aM, aF, aFl, aFs]; omega)) only [u2n, u2s]
    exact ⟨c1, c2, c3, c4, c5, c6, c7, c8, c9, c10, c11, c12, c13⟩
theorem CT_dredge (z n i0 : Nat) (hi0 : i0 < n) (hn : n ≤ 11) (I : Nat → Nat → Int32) (C : CT z n I) (u : Int32) : CT z n (u2 (u2 I (aT z n i0) 7 u) (aJ z n 5) i0 u) := by
  intro i hi
  obtain ⟨c1, c2, c3, c4, c5, c6, c7, c8, c9, c10, c11, c12, c13⟩ := C i hi
  by_cases e : i = i0
  · subst e
    simp (disch := first | omega | (simp only [aT, aN, aA, aJ, aM, aF, aFl, aFs]; omega)) only [u2n, u2s]
    exact ⟨c1, c2, c3, c4, trivial, c6, c7, c8, c9, c10, c11, c12, c13⟩
  · simp (disch := first | omega | (simp only [aT, aN, aA, aJ, aM, aF, aFl, aFs]; omega)) only [u2n, u2s]
    exact ⟨c1, c2, c3, c4, c5, c6, c7, c8, c9, c10, c11, c12, c13⟩
theorem CT_water (z n i0 : Nat) (hi0 : i0 < n) (hn : n ≤ 11) (I : Nat → Nat → Int32) (C : CT z n I) (u : Int32) : CT z n (u2 (u2 I (aN z n i0) 0 u) (aJ z n 3) i0 u) := by
  intro i hi
  obtain ⟨c1, c2, c3, c4, c5, c6, c7, c8, c9, c10, c11, c12, c13⟩ := C i hi
  by_cases e : i = i0
  · subst e
    simp (disch := first | omega | (simp only [aT, aN, aA, aJ, aM, aF, aFl, aFs]; omega)) only [u2n, u2s]
    exact ⟨c1, c2, c3, c4, c5, c6, trivial, c8, c9, c10, c11, c12, c13⟩
  · simp (disch := first | omega | (simp only [aT, aN, aA, aJ, aM, aF, aFl, aFs]; omega)) only [u2n, u2s]
    exact ⟨c1, c2, c3, c4, c5, c6, c7, c8, c9, c10, c11, c12, c13⟩
theorem CT_tank (z n i0 : Nat) (hi0 : i0 < n) (hn : n ≤ 11) (I : Nat → Nat → Int32) (C : CT z n I) (u v w : Int32) : CT z n (u2 (u2 (u2 (u2 (u2 (u2 I (aT z n i0) 4 u) (aT z n i0) 5 v) (aT z n i0) 6 w) (aJ z n 0) i0 u) (aJ z n 1) i0 v) (aJ z n 2) i0 w) := by
  intro i hi
  obtain ⟨c1, c2, c3, c4, c5, c6, c7, c8, c9, c10, c11, c12, c13⟩ := C i hi
  by_cases e : i = i0
  · subst e
    simp (disch := first | omega | (simp only [aT, aN, aA, aJ, aM, aF, aFl, aFs]; omega)) only [u2n, u2s]
    exact ⟨c1, trivial, trivial, trivial, c5, c6, c7, c8, c9, c10, c11, c12, c13⟩
  · simp (disch := first | omega | (simp only [aT, aN, aA, aJ, aM, aF, aFl, aFs]; omega)) only [u2n, u2s]
    exact ⟨c1, c2, c3, c4, c5, c6, c7, c8, c9, c10, c11, c12, c13⟩
