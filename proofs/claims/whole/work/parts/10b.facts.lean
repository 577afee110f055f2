/-! the layout's facts by name (written by program) -/
section LF
variable {z n nf : Nat} {h : AH}
theorem W_z (W : WS z n nf h) : h.2.1 z = some (.inl 7) := W.2.1
theorem W_fa (W : WS z n nf h) : h.2.1 (z + 1) = some (.inr (.object RX1, 40)) := W.2.2.1
theorem W_tp (W : WS z n nf h) : h.2.1 (z + 2) = some (.inl 6) := W.2.2.2.1
theorem W_tb (W : WS z n nf h) : h.2.1 (z + 3) = some (.inr (.byte, 300)) := W.2.2.2.2.1
theorem W_cu (W : WS z n nf h) : h.2.1 (z + 4) = some (.inl 0) := W.2.2.2.2.2.1
theorem W_cf (W : WS z n nf h) : h.2.1 (z + 5) = some (.inr (.int, 10)) := W.2.2.2.2.2.2.1
theorem W_dr (W : WS z n nf h) : h.2.1 (z + 6) = some (.inl 0) := W.2.2.2.2.2.2.2.1
theorem W_df (W : WS z n nf h) : h.2.1 (z + 7) = some (.inr (.int, 10)) := W.2.2.2.2.2.2.2.2.1
theorem W_ev (W : WS z n nf h) : h.2.1 (z + 8) = some (.inl 4) := W.2.2.2.2.2.2.2.2.2.1
theorem W_ta (W : WS z n nf h) : h.2.1 (z + 9) = some (.inr (.object RX5, n)) := W.2.2.2.2.2.2.2.2.2.2.1
theorem W_T (W : WS z n nf h) {i : Nat} (hi : i < n) : h.2.1 (aT z n i) = some (.inl 5) := (W.2.2.2.2.2.2.2.2.2.2.2.1 i hi).1
theorem W_N (W : WS z n nf h) {i : Nat} (hi : i < n) : h.2.1 (aN z n i) = some (.inl 3) := (W.2.2.2.2.2.2.2.2.2.2.2.1 i hi).2.1
theorem W_A (W : WS z n nf h) {i : Nat} (hi : i < n) : h.2.1 (aA z n i) = some (.inl 3) := (W.2.2.2.2.2.2.2.2.2.2.2.1 i hi).2.2
theorem W_fl (W : WS z n nf h) : h.2.1 (aFl z n) = some (.inl 2) := W.2.2.2.2.2.2.2.2.2.2.2.2.1
theorem W_fs (W : WS z n nf h) : h.2.1 (aFs z n) = some (.inl 4) := W.2.2.2.2.2.2.2.2.2.2.2.2.2.1
theorem W_M (W : WS z n nf h) : h.2.1 (aM z n) = some (.inl 8) := W.2.2.2.2.2.2.2.2.2.2.2.2.2.2.1
theorem W_J0 (W : WS z n nf h) : h.2.1 (aJ z n 0) = some (.inr (.int, 11)) := W.2.2.2.2.2.2.2.2.2.2.2.2.2.2.2.1 0 (by omega)
theorem W_J1 (W : WS z n nf h) : h.2.1 (aJ z n 1) = some (.inr (.int, 11)) := W.2.2.2.2.2.2.2.2.2.2.2.2.2.2.2.1 1 (by omega)
theorem W_J2 (W : WS z n nf h) : h.2.1 (aJ z n 2) = some (.inr (.int, 11)) := W.2.2.2.2.2.2.2.2.2.2.2.2.2.2.2.1 2 (by omega)
theorem W_J3 (W : WS z n nf h) : h.2.1 (aJ z n 3) = some (.inr (.int, 11)) := W.2.2.2.2.2.2.2.2.2.2.2.2.2.2.2.1 3 (by omega)
theorem W_J4 (W : WS z n nf h) : h.2.1 (aJ z n 4) = some (.inr (.int, 11)) := W.2.2.2.2.2.2.2.2.2.2.2.2.2.2.2.1 4 (by omega)
theorem W_J5 (W : WS z n nf h) : h.2.1 (aJ z n 5) = some (.inr (.int, 11)) := W.2.2.2.2.2.2.2.2.2.2.2.2.2.2.2.1 5 (by omega)
theorem W_J6 (W : WS z n nf h) : h.2.1 (aJ z n 6) = some (.inr (.int, 11)) := W.2.2.2.2.2.2.2.2.2.2.2.2.2.2.2.1 6 (by omega)
theorem W_J7 (W : WS z n nf h) : h.2.1 (aJ z n 7) = some (.inr (.int, 11)) := W.2.2.2.2.2.2.2.2.2.2.2.2.2.2.2.1 7 (by omega)
theorem W_J8 (W : WS z n nf h) : h.2.1 (aJ z n 8) = some (.inr (.int, 11)) := W.2.2.2.2.2.2.2.2.2.2.2.2.2.2.2.1 8 (by omega)
theorem W_J9 (W : WS z n nf h) : h.2.1 (aJ z n 9) = some (.inr (.boolean, 11)) := W.2.2.2.2.2.2.2.2.2.2.2.2.2.2.2.1 9 (by omega)
theorem W_J10 (W : WS z n nf h) : h.2.1 (aJ z n 10) = some (.inr (.int, 40)) := W.2.2.2.2.2.2.2.2.2.2.2.2.2.2.2.1 10 (by omega)
theorem W_J11 (W : WS z n nf h) : h.2.1 (aJ z n 11) = some (.inr (.int, 40)) := W.2.2.2.2.2.2.2.2.2.2.2.2.2.2.2.1 11 (by omega)
theorem W_J12 (W : WS z n nf h) : h.2.1 (aJ z n 12) = some (.inr (.int, 40)) := W.2.2.2.2.2.2.2.2.2.2.2.2.2.2.2.1 12 (by omega)
theorem W_J13 (W : WS z n nf h) : h.2.1 (aJ z n 13) = some (.inr (.int, 40)) := W.2.2.2.2.2.2.2.2.2.2.2.2.2.2.2.1 13 (by omega)
theorem W_J14 (W : WS z n nf h) : h.2.1 (aJ z n 14) = some (.inr (.int, 40)) := W.2.2.2.2.2.2.2.2.2.2.2.2.2.2.2.1 14 (by omega)
theorem W_J15 (W : WS z n nf h) : h.2.1 (aJ z n 15) = some (.inr (.int, 40)) := W.2.2.2.2.2.2.2.2.2.2.2.2.2.2.2.1 15 (by omega)
theorem W_J16 (W : WS z n nf h) : h.2.1 (aJ z n 16) = some (.inr (.int, 40)) := W.2.2.2.2.2.2.2.2.2.2.2.2.2.2.2.1 16 (by omega)
theorem W_J17 (W : WS z n nf h) : h.2.1 (aJ z n 17) = some (.inr (.boolean, 40)) := W.2.2.2.2.2.2.2.2.2.2.2.2.2.2.2.1 17 (by omega)
theorem W_J18 (W : WS z n nf h) : h.2.1 (aJ z n 18) = some (.inr (.int, 10)) := W.2.2.2.2.2.2.2.2.2.2.2.2.2.2.2.1 18 (by omega)
theorem W_J19 (W : WS z n nf h) : h.2.1 (aJ z n 19) = some (.inr (.byte, 300)) := W.2.2.2.2.2.2.2.2.2.2.2.2.2.2.2.1 19 (by omega)
theorem W_J20 (W : WS z n nf h) : h.2.1 (aJ z n 20) = some (.inr (.byte, 300)) := W.2.2.2.2.2.2.2.2.2.2.2.2.2.2.2.1 20 (by omega)
theorem W_J21 (W : WS z n nf h) : h.2.1 (aJ z n 21) = some (.inr (.int, 28)) := W.2.2.2.2.2.2.2.2.2.2.2.2.2.2.2.1 21 (by omega)
theorem W_J22 (W : WS z n nf h) : h.2.1 (aJ z n 22) = some (.inr (.int, 40)) := W.2.2.2.2.2.2.2.2.2.2.2.2.2.2.2.1 22 (by omega)
theorem W_J23 (W : WS z n nf h) : h.2.1 (aJ z n 23) = some (.inr (.int, 40)) := W.2.2.2.2.2.2.2.2.2.2.2.2.2.2.2.1 23 (by omega)
theorem W_J24 (W : WS z n nf h) : h.2.1 (aJ z n 24) = some (.inr (.boolean, 40)) := W.2.2.2.2.2.2.2.2.2.2.2.2.2.2.2.1 24 (by omega)
theorem W_J25 (W : WS z n nf h) : h.2.1 (aJ z n 25) = some (.inr (.int, 11)) := W.2.2.2.2.2.2.2.2.2.2.2.2.2.2.2.1 25 (by omega)
theorem W_J26 (W : WS z n nf h) : h.2.1 (aJ z n 26) = some (.inr (.int, 11)) := W.2.2.2.2.2.2.2.2.2.2.2.2.2.2.2.1 26 (by omega)
theorem W_J27 (W : WS z n nf h) : h.2.1 (aJ z n 27) = some (.inr (.boolean, 11)) := W.2.2.2.2.2.2.2.2.2.2.2.2.2.2.2.1 27 (by omega)
theorem W_F (W : WS z n nf h) {f : Nat} (hf : f < nf) : h.2.1 (aF z n f) = some (.inl 1) := W.2.2.2.2.2.2.2.2.2.2.2.2.2.2.2.2 f hf
theorem V_ta (V : WR z n nf h) : h.2.2.2 z 0 = some (z + 9) := V.1
theorem V_fa (V : WR z n nf h) : h.2.2.2 z 1 = some (z + 1) := V.2.1
theorem V_tp (V : WR z n nf h) : h.2.2.2 z 2 = some (z + 2) := V.2.2.1
theorem V_cu (V : WR z n nf h) : h.2.2.2 z 3 = some (z + 4) := V.2.2.2.1
theorem V_dr (V : WR z n nf h) : h.2.2.2 z 4 = some (z + 6) := V.2.2.2.2.1
theorem V_fl (V : WR z n nf h) : h.2.2.2 z 5 = some (aFl z n) := V.2.2.2.2.2.1
theorem V_ev (V : WR z n nf h) : h.2.2.2 z 6 = some (z + 8) := V.2.2.2.2.2.2.1
theorem V_tb (V : WR z n nf h) : h.2.2.2 (z + 2) 0 = some (z + 3) := V.2.2.2.2.2.2.2.1
theorem V_cf (V : WR z n nf h) : h.2.2.2 (z + 4) 0 = some (z + 5) := V.2.2.2.2.2.2.2.2.1
theorem V_df (V : WR z n nf h) : h.2.2.2 (z + 6) 0 = some (z + 7) := V.2.2.2.2.2.2.2.2.2.1
theorem V_fl0 (V : WR z n nf h) : h.2.2.2 (aFl z n) 0 = some (aT z n 0) := V.2.2.2.2.2.2.2.2.2.2.1
theorem V_fl1 (V : WR z n nf h) : h.2.2.2 (aFl z n) 1 = some (z + 4) := V.2.2.2.2.2.2.2.2.2.2.2.1
theorem V_fl2 (V : WR z n nf h) : h.2.2.2 (aFl z n) 2 = some (aFs z n) := V.2.2.2.2.2.2.2.2.2.2.2.2.1
theorem V_tai (V : WR z n nf h) {i : Nat} (hi : i < n) : h.2.2.2 (z + 9) i = some (aT z n i) := (V.2.2.2.2.2.2.2.2.2.2.2.2.2.1 i hi).1
theorem V_bel (V : WR z n nf h) {i : Nat} (hi : i < n) : h.2.2.2 (aT z n i) 1 = (if i + 1 < n then some (aT z n (i + 1)) else none) := (V.2.2.2.2.2.2.2.2.2.2.2.2.2.1 i hi).2.1
theorem V_N (V : WR z n nf h) {i : Nat} (hi : i < n) : h.2.2.2 (aT z n i) 2 = some (aN z n i) := (V.2.2.2.2.2.2.2.2.2.2.2.2.2.1 i hi).2.2.1
theorem V_A (V : WR z n nf h) {i : Nat} (hi : i < n) : h.2.2.2 (aT z n i) 3 = some (aA z n i) := (V.2.2.2.2.2.2.2.2.2.2.2.2.2.1 i hi).2.2.2
theorem V_fai (V : WR z n nf h) {f : Nat} (hf : f < 40) : h.2.2.2 (z + 1) f = if f < nf then some (aF z n f) else none := V.2.2.2.2.2.2.2.2.2.2.2.2.2.2.1 f hf
theorem V_J0 (V : WR z n nf h) : h.2.2.2 (aM z n) 4 = some (aJ z n 0) := V.2.2.2.2.2.2.2.2.2.2.2.2.2.2.2 0 (by omega)
theorem V_J1 (V : WR z n nf h) : h.2.2.2 (aM z n) 5 = some (aJ z n 1) := V.2.2.2.2.2.2.2.2.2.2.2.2.2.2.2 1 (by omega)
theorem V_J2 (V : WR z n nf h) : h.2.2.2 (aM z n) 6 = some (aJ z n 2) := V.2.2.2.2.2.2.2.2.2.2.2.2.2.2.2 2 (by omega)
theorem V_J3 (V : WR z n nf h) : h.2.2.2 (aM z n) 7 = some (aJ z n 3) := V.2.2.2.2.2.2.2.2.2.2.2.2.2.2.2 3 (by omega)
theorem V_J4 (V : WR z n nf h) : h.2.2.2 (aM z n) 8 = some (aJ z n 4) := V.2.2.2.2.2.2.2.2.2.2.2.2.2.2.2 4 (by omega)
theorem V_J5 (V : WR z n nf h) : h.2.2.2 (aM z n) 9 = some (aJ z n 5) := V.2.2.2.2.2.2.2.2.2.2.2.2.2.2.2 5 (by omega)
theorem V_J6 (V : WR z n nf h) : h.2.2.2 (aM z n) 10 = some (aJ z n 6) := V.2.2.2.2.2.2.2.2.2.2.2.2.2.2.2 6 (by omega)
theorem V_J7 (V : WR z n nf h) : h.2.2.2 (aM z n) 11 = some (aJ z n 7) := V.2.2.2.2.2.2.2.2.2.2.2.2.2.2.2 7 (by omega)
theorem V_J8 (V : WR z n nf h) : h.2.2.2 (aM z n) 12 = some (aJ z n 8) := V.2.2.2.2.2.2.2.2.2.2.2.2.2.2.2 8 (by omega)
theorem V_J9 (V : WR z n nf h) : h.2.2.2 (aM z n) 13 = some (aJ z n 9) := V.2.2.2.2.2.2.2.2.2.2.2.2.2.2.2 9 (by omega)
theorem V_J10 (V : WR z n nf h) : h.2.2.2 (aM z n) 14 = some (aJ z n 10) := V.2.2.2.2.2.2.2.2.2.2.2.2.2.2.2 10 (by omega)
theorem V_J11 (V : WR z n nf h) : h.2.2.2 (aM z n) 15 = some (aJ z n 11) := V.2.2.2.2.2.2.2.2.2.2.2.2.2.2.2 11 (by omega)
theorem V_J12 (V : WR z n nf h) : h.2.2.2 (aM z n) 16 = some (aJ z n 12) := V.2.2.2.2.2.2.2.2.2.2.2.2.2.2.2 12 (by omega)
theorem V_J13 (V : WR z n nf h) : h.2.2.2 (aM z n) 17 = some (aJ z n 13) := V.2.2.2.2.2.2.2.2.2.2.2.2.2.2.2 13 (by omega)
theorem V_J14 (V : WR z n nf h) : h.2.2.2 (aM z n) 18 = some (aJ z n 14) := V.2.2.2.2.2.2.2.2.2.2.2.2.2.2.2 14 (by omega)
theorem V_J15 (V : WR z n nf h) : h.2.2.2 (aM z n) 19 = some (aJ z n 15) := V.2.2.2.2.2.2.2.2.2.2.2.2.2.2.2 15 (by omega)
theorem V_J16 (V : WR z n nf h) : h.2.2.2 (aM z n) 20 = some (aJ z n 16) := V.2.2.2.2.2.2.2.2.2.2.2.2.2.2.2 16 (by omega)
theorem V_J17 (V : WR z n nf h) : h.2.2.2 (aM z n) 21 = some (aJ z n 17) := V.2.2.2.2.2.2.2.2.2.2.2.2.2.2.2 17 (by omega)
theorem V_J18 (V : WR z n nf h) : h.2.2.2 (aM z n) 22 = some (aJ z n 18) := V.2.2.2.2.2.2.2.2.2.2.2.2.2.2.2 18 (by omega)
theorem V_J19 (V : WR z n nf h) : h.2.2.2 (aM z n) 31 = some (aJ z n 19) := V.2.2.2.2.2.2.2.2.2.2.2.2.2.2.2 19 (by omega)
theorem V_J20 (V : WR z n nf h) : h.2.2.2 (aM z n) 32 = some (aJ z n 20) := V.2.2.2.2.2.2.2.2.2.2.2.2.2.2.2 20 (by omega)
theorem V_J21 (V : WR z n nf h) : h.2.2.2 (aM z n) 37 = some (aJ z n 21) := V.2.2.2.2.2.2.2.2.2.2.2.2.2.2.2 21 (by omega)
theorem V_J22 (V : WR z n nf h) : h.2.2.2 (aM z n) 41 = some (aJ z n 22) := V.2.2.2.2.2.2.2.2.2.2.2.2.2.2.2 22 (by omega)
theorem V_J23 (V : WR z n nf h) : h.2.2.2 (aM z n) 42 = some (aJ z n 23) := V.2.2.2.2.2.2.2.2.2.2.2.2.2.2.2 23 (by omega)
theorem V_J24 (V : WR z n nf h) : h.2.2.2 (aM z n) 43 = some (aJ z n 24) := V.2.2.2.2.2.2.2.2.2.2.2.2.2.2.2 24 (by omega)
theorem V_J25 (V : WR z n nf h) : h.2.2.2 (aM z n) 44 = some (aJ z n 25) := V.2.2.2.2.2.2.2.2.2.2.2.2.2.2.2 25 (by omega)
theorem V_J26 (V : WR z n nf h) : h.2.2.2 (aM z n) 45 = some (aJ z n 26) := V.2.2.2.2.2.2.2.2.2.2.2.2.2.2.2 26 (by omega)
theorem V_J27 (V : WR z n nf h) : h.2.2.2 (aM z n) 46 = some (aJ z n 27) := V.2.2.2.2.2.2.2.2.2.2.2.2.2.2.2 27 (by omega)
end LF
