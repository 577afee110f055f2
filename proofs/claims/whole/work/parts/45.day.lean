/-! ===== the day ===== -/
def g34e (h : AH) (l0 : Nat) : Option (Int32 × AH) := gR h (some l0) 8 7 (fun v3 => gR h (some l0) 8 13 (fun v4 => gR h (some l0) 8 8 (fun v5 => gI h (some l0) 8 2 (fun v6 => rcv h (some l0) 8 (fun a10 => cal (f_X8_flows h a10 v3 v4 v5 v6 1) (fun _ h8 => gI h8 (some l0) 8 1 (fun v13 => pI h8 (some l0) 8 1 (v13 + 1) (fun h14 => gI h14 (some l0) 8 1 (fun v15 => some (v15, h14))))))))))
/-- silt on day dN -/
def slv (dN : Nat) (s t : Int32) : Int32 := if nI dN + 1 - (nI dN + 1) / 100 * 100 = 0 then sil s t else t
def t5 (z n a k : Nat) : Prop := a = z + 18 + 3 * n ∧ k < n
section DAY
variable {z n nf dN hN : Nat} {h : AH}
theorem l_silt8 (W0 : WS z n nf h) (V0 : WR z n nf h) (hm : h.2.2.1 (aM z n) 0 = nI n) (hd : h.2.2.1 (aM z n) 1 = nI dN) (hn : n ≤ 11) : ∀ (m i : Nat) (h' : AH), n - i < m → i ≤ n → Ag (t5 z n) h h' → (∀ j, j < i → h'.2.2.1 (aJ z n 5) j = slv dN (h.2.2.1 (aJ z n 1) j) (h.2.2.1 (aJ z n 5) j)) → (∀ j, i ≤ j → h'.2.2.1 (aJ z n 5) j = h.2.2.1 (aJ z n 5) j) → ∃ h2, f_X8_day_34 m h' (aM z n) (nI i) = g34e h2 (aM z n) ∧ Ag (t5 z n) h h2 ∧ ∀ j, j < n → h2.2.2.1 (aJ z n 5) j = slv dN (h.2.2.1 (aJ z n 1) j) (h.2.2.1 (aJ z n 5) j) := by
  intro m
  induction m with
  | zero => intro i h' h1; omega
  | succ m ih =>
    intro i h' h1 h2 p hdn hr
    have W := WS_ag W0 p
    have V := WR_ag V0 p
    have sM := W_M W
    have hm' : h'.2.2.1 (aM z n) 0 = nI n := (p.2.2.2 _ _ (by unfold t5 aM; omega)).trans hm
    have hd' : h'.2.2.1 (aM z n) 1 = nI dN := (p.2.2.2 _ _ (by unfold t5 aM; omega)).trans hd
    unfold f_X8_day_34
    rw [ev_gI sM, hm']
    by_cases hi : i < n
    · have hi11 : i < 11 := by omega
      have e1 : h'.2.2.1 (aJ z n 1) i = h.2.2.1 (aJ z n 1) i := p.2.2.2 _ _ (by unfold t5 aJ; omega)
      rw [if_neg (nI_ge hi (by omega)), ev_gI sM, hd', ev_rm (by decide)]
      unfold f_X8_day_85
      by_cases e : nI dN + 1 - (nI dN + 1) / 100 * 100 = 0
      · rw [if_pos e, ev_gR sM, V_J5 V, ev_gR sM, V_J1 V, ev_aI (W_J1 W) hi11 (by omega), ev_gR sM, V_J5 V, ev_aI (W_J5 W) hi11 (by omega), ev_gR sM, V_J1 V, ev_aI (W_J1 W) hi11 (by omega), ev_dv (by decide), ev_bd, ev_sI (W_J5 W) hi11 (by omega), vn_i, ev_bd, nI_1, e1, hr i (Nat.le_refl i)]
        refine ih (i + 1) _ (by omega) (by omega) (p.set (by unfold t5 aJ; omega)) (fun j hj => ?_) (fun j hj => ?_)
        · by_cases e2 : j = i
          · subst e2
            rw [sI_u, u2s]
            unfold slv
            rw [if_pos e]
            rfl
          · rw [sI_u, u2n (Or.inr e2)]
            exact hdn j (by omega)
        · rw [sI_u, u2n (Or.inr (by omega))]
          exact hr j (by omega)
      · rw [if_neg e, ev_bd, nI_1]
        refine ih (i + 1) _ (by omega) (by omega) p (fun j hj => ?_) (fun j hj => hr j (by omega))
        by_cases e2 : j = i
        · subst e2
          rw [hr j (Nat.le_refl j)]
          unfold slv
          rw [if_neg e]
        · exact hdn j (by omega)
    · have e : i = n := by omega
      subst e
      rw [if_pos (nI_le (Nat.le_refl i) (by omega))]
      exact ⟨h', rfl, p, hdn⟩
/-- what stands behind a change of rain and silt -/
def siC (z n a k : Nat) : Prop := (a = z ∧ k = 9) ∨ (a = z + 12 + 3 * n ∧ k = 2) ∨ tS z n a k ∨ a = z + 18 + 3 * n
theorem Cpl_si {h0 : AH} (C : Cpl z n nf dN hN h) (p : Ag (siC z n) h h0) (hr : h0.2.2.1 z 9 = h0.2.2.1 (aM z n) 2) (ht : ∀ i, i < n → h0.2.2.1 (aT z n i) 7 = h0.2.2.1 (aJ z n 5) i) : Cpl z n nf dN hN h0 := by
  obtain ⟨b, W, V, ct, cf, cx, cp, cc, co, ch⟩ := C
  have rJ : ∀ j, j ≠ 5 → h0.2.2.1 (aJ z n j) = h.2.2.1 (aJ z n j) := fun j hj => funext (fun k => p.2.2.2 _ _ (by unfold siC tS aJ; omega))
  have rF : ∀ f, h0.2.2.1 (aF z n f) = h.2.2.1 (aF z n f) := fun f => funext (fun k => p.2.2.2 _ _ (by unfold siC tS aF; omega))
  have rM : ∀ k, k ≠ 2 → h0.2.2.1 (aM z n) k = h.2.2.1 (aM z n) k := fun k hk => p.2.2.2 _ _ (by unfold siC tS aM; omega)
  have rZ : ∀ d, 0 < d → d < 10 → h0.2.2.1 (z + d) = h.2.2.1 (z + d) := fun d h1 h2 => funext (fun k => p.2.2.2 _ _ (by unfold siC tS; omega))
  have rz : ∀ k, k ≠ 9 → h0.2.2.1 z k = h.2.2.1 z k := fun k hk => p.2.2.2 _ _ (by unfold siC tS; omega)
  refine ⟨b, WS_ag W p, WR_ag V p, ?_, ?_, ?_, ?_, ?_, ?_, ?_⟩
  · intro i hi
    have rT : ∀ k, k ≠ 7 → h0.2.2.1 (aT z n i) k = h.2.2.1 (aT z n i) k := fun k hk => p.2.2.2 _ _ (by unfold siC tS aT; omega)
    have rN : ∀ k, h0.2.2.1 (aN z n i) k = h.2.2.1 (aN z n i) k := fun k => p.2.2.2 _ _ (by unfold siC tS aN; omega)
    obtain ⟨c1, c2, c3, c4, c5, c6, c7, c8, c9, c10, c11, c12, c13⟩ := ct i hi
    rw [rJ 0 (by omega), rJ 1 (by omega), rJ 2 (by omega), rJ 3 (by omega), rJ 4 (by omega), rJ 6 (by omega), rJ 7 (by omega), rJ 8 (by omega), rJ 9 (by omega), rT 0 (by omega), rT 4 (by omega), rT 5 (by omega), rT 6 (by omega), rT 8 (by omega), rN, rN, rN, rN, rN]
    exact ⟨c1, c2, c3, c4, ht i hi, c6, c7, c8, c9, c10, c11, c12, c13⟩
  · intro f hf
    rw [rF, rJ 10 (by omega), rJ 11 (by omega), rJ 12 (by omega), rJ 13 (by omega), rJ 14 (by omega), rJ 15 (by omega), rJ 16 (by omega), rJ 17 (by omega)]
    exact cf f hf
  · obtain ⟨x1, x2, -, x4⟩ := cx
    unfold CX
    rw [rz 7 (by omega), rz 8 (by omega), rz 10 (by omega), rz 11 (by omega), rz 12 (by omega), rz 13 (by omega), rz 14 (by omega), rM 0 (by omega), rM 1 (by omega), rM 3 (by omega), rM 23 (by omega), rM 24 (by omega), rM 25 (by omega), rM 26 (by omega), rM 27 (by omega), rM 28 (by omega), rM 29 (by omega), rM 30 (by omega), rM 33 (by omega), rM 36 (by omega), rZ 8 (by omega) (by omega), rZ 2 (by omega) (by omega)]
    exact ⟨x1, x2, hr, x4⟩
  · unfold CP
    rw [rZ 3 (by omega) (by omega), rJ 19 (by omega)]
    exact cp
  · unfold CC
    rw [rZ 4 (by omega) (by omega), rZ 5 (by omega) (by omega), rM 38 (by omega), rJ 21 (by omega)]
    exact cc
  · unfold CO
    rw [rJ 18 (by omega), rJ 13 (by omega), rJ 12 (by omega), rJ 14 (by omega), rJ 15 (by omega), rJ 16 (by omega)]
    exact co
  · intro i hi
    rw [ordl_congr (rJ 10 (by omega)) (rJ 11 (by omega)) (rJ 12 (by omega)) (rJ 17 (by omega)) (by rw [rZ 4 (by omega) (by omega)]) (rZ 5 (by omega) (by omega)), p.2.2.1]
    exact ch i hi
/-- the day is over on both sides -/
theorem Cpl_day {h0 h2 : AH} (C : Cpl z n nf dN hN h0) {rain : Int32} {w b o : Nat → Int32} (hb : b = h0.2.2.1 (aJ z n 9)) (ho : o = h0.2.2.1 (aJ z n 4)) (hdN : dN < 1000) (p : Ag (dyA z n) h0 h2) (D : Day7 z n nf dN h0 rain w b o h2) (T : Tru8 z n nf dN h0 rain w b o n (setI h2 (aM z n) 1 (nI dN))) (t23 : h2.2.2.1 (aM z n) 23 = h0.2.2.1 (aM z n) 23 + dD z n nf h0.2.2.1 rain w b o n) (t1 : h2.2.2.1 (aM z n) 1 = nI (dN + 1)) : Cpl z n nf (dN + 1) hN h2 := by
  obtain ⟨b', W, V, ct, cf, cx, cp, cc, co, ch⟩ := C
  obtain ⟨d1, d2, d3, d4, d5, d6, d7, d8, d9⟩ := D
  have nr : ∀ j, aJ z n j ≠ aM z n := fun j => by (first | omega | (simp only [aT, aN, aA, aJ, aM, aF, aFl, aFs]; omega))
  obtain ⟨ta, -, tc, -, co2, ⟨t26, t24, t25⟩, -, th, ti⟩ := T
  simp (disch := (refine Or.inr ?_; omega)) only [sI_u, u2_ne _ _ (nr _), u2n] at ta tc t26 t24 t25 th ti
  unfold CO at co2
  simp only [sI_u, u2_ne _ _ (nr _)] at co2
  have st := Ag_sta p
  have r4 : ∀ k, h2.2.2.1 (aJ z n 4) k = h0.2.2.1 (aJ z n 4) k := fun k => p.2.2.2 _ _ (by rintro ((q | q | q | q | q) | q) <;> (try simp only [sc, kT, kF, dyR, aJ, aM, aT, aN, aF, aFl, aFs] at q) <;> omega)
  have r13 : h2.2.2.1 (aJ z n 13) = h0.2.2.1 (aJ z n 13) := funext (fun k => p.2.2.2 _ _ (by rintro ((q | q | q | q | q) | q) <;> (try simp only [sc, kT, kF, dyR, aJ, aM, aT, aN, aF, aFl, aFs] at q) <;> omega))
  have r19 : h2.2.2.1 (aJ z n 19) = h0.2.2.1 (aJ z n 19) := funext (fun k => p.2.2.2 _ _ (by rintro ((q | q | q | q | q) | q) <;> (try simp only [sc, kT, kF, dyR, aJ, aM, aT, aN, aF, aFl, aFs] at q) <;> omega))
  have r21 : ∀ k, k < 14 → h2.2.2.1 (aJ z n 21) k = h0.2.2.1 (aJ z n 21) k := fun k hk => p.2.2.2 _ _ (by rintro ((q | q | q | q | q) | q) <;> (try simp only [sc, kT, kF, dyR, aJ, aM, aT, aN, aF, aFl, aFs] at q) <;> omega)
  have z3 : h2.2.2.1 (z + 3) = h0.2.2.1 (z + 3) := funext (fun k => p.2.2.2 _ _ (by rintro ((q | q | q | q | q) | q) <;> (try simp only [sc, kT, kF, dyR, aJ, aM, aT, aN, aF, aFl, aFs] at q) <;> omega))
  have z4 : h2.2.2.1 (z + 4) = h0.2.2.1 (z + 4) := funext (fun k => p.2.2.2 _ _ (by rintro ((q | q | q | q | q) | q) <;> (try simp only [sc, kT, kF, dyR, aJ, aM, aT, aN, aF, aFl, aFs] at q) <;> omega))
  have z2 : h2.2.2.1 (z + 2) 1 = h0.2.2.1 (z + 2) 1 := p.2.2.2 _ _ (by rintro ((q | q | q | q | q) | q) <;> (try simp only [sc, kT, kF, dyR, aJ, aM, aT, aN, aF, aFl, aFs] at q) <;> omega)
  have rM : ∀ k, (k = 0 ∨ k = 2 ∨ k = 3 ∨ k = 27 ∨ k = 33 ∨ k = 36 ∨ k = 38) → h2.2.2.1 (aM z n) k = h0.2.2.1 (aM z n) k := fun k hk => p.2.2.2 _ _ (by rintro ((q | q | q | q | q) | q) <;> (try simp only [sc, kT, kF, dyR, aJ, aM, aT, aN, aF, aFl, aFs] at q) <;> omega)
  have rz : ∀ k, (k = 7 ∨ k = 9 ∨ k = 10 ∨ k = 11) → h2.2.2.1 z k = h0.2.2.1 z k := fun k hk => p.2.2.2 _ _ (by rintro ((q | q | q | q | q) | q) <;> (try simp only [sc, kT, kF, dyR, aJ, aM, aT, aN, aF, aFl, aFs] at q) <;> omega)
  refine ⟨⟨b'.1, b'.2.1, b'.2.2.1, by omega, b'.2.2.2.2⟩, WS_ag W p, WR_ag V p, ?_, ?_, ?_, ?_, ?_, ?_, ?_⟩
  · intro i hi
    obtain ⟨c1, c2, c3, c4, c5, c6, c7, c8, c9, c10, c11, c12, c13⟩ := ct i hi
    have rT : ∀ k, k ≠ 8 → h2.2.2.1 (aT z n i) k = h0.2.2.1 (aT z n i) k := fun k hk => p.2.2.2 _ _ (by rintro ((q | q | q | q | q) | q) <;> (try simp only [sc, kT, kF, dyR, aJ, aM, aT, aN, aF, aFl, aFs] at q) <;> omega)
    obtain ⟨x0, x1, x2, x3, x4, x5⟩ := d1 i hi
    obtain ⟨y3, y9, y6, y7, y8⟩ := ta i hi
    rw [rT 0 (by omega), rT 4 (by omega), rT 5 (by omega), rT 6 (by omega), rT 7 (by omega), st.1 0 (by omega), st.1 1 (by omega), st.1 2 (by omega), st.1 5 (by omega), r4, x0, x1, x2, x3, x4, x5, y3, y9, y6, y7, y8]
    refine ⟨c1, c2, c3, c4, c5, by rw [c6], rfl, by rw [ho], rfl, rfl, rfl, c12, ?_⟩
    exact (pB_brk (by rw [hb]; exact c13)).1
  · intro f hf
    have rF : ∀ k, k < 6 → h2.2.2.1 (aF z n f) k = h0.2.2.1 (aF z n f) k := fun k hk => p.2.2.2 _ _ (by rintro ((q | q | q | q | q) | q) <;> (try simp only [sc, kT, kF, dyR, aJ, aM, aT, aN, aF, aFl, aFs] at q) <;> omega)
    obtain ⟨c0, c1, c2, c3, c4, c5, c9, c10, c11, ⟨t, ht, et⟩, crest⟩ := cf f hf
    obtain ⟨x11, x10, x9⟩ := d2 f hf t ht et
    obtain ⟨y16, y15, y14⟩ := tc f hf t ht et ht
    rw [rF 0 (by omega), rF 1 (by omega), rF 2 (by omega), rF 3 (by omega), rF 4 (by omega), rF 5 (by omega), st.1 10 (by omega), st.1 11 (by omega), st.1 12 (by omega), st.1 17 (by omega), r13, x11, x10, x9, y16, y15, y14]
    exact ⟨c0, c1, c2, c3, c4, c5, by rw [c9], by rw [c10], rfl, ⟨t, ht, et⟩, crest⟩
  · obtain ⟨x7, x8, x9, x10, x11, x12, x13, x14, m0, m1, m3, e0, e1, e2, e3, xh, mh⟩ := cx
    unfold CX
    rw [rz 7 (by omega), rz 9 (by omega), rz 10 (by omega), rz 11 (by omega), rM 0 (by omega), rM 2 (by omega), rM 3 (by omega), rM 27 (by omega), rM 33 (by omega), rM 36 (by omega), d5, d6, d7, d8, d9, t23, t24, t25, t26, t1, z2]
    refine ⟨x7, rfl, x9, x10, x11, ?_, ?_, ?_, m0, rfl, m3, by rw [e0], by rw [e1], by rw [e2], by rw [e3], xh, mh⟩
    · by_cases e : cntK (dyK z n nf h0.2.2.1 rain w b o) n = 0
      · rw [(d3 e).1, (th e).2.2]; exact x12
      · rw [(d4 e).1, (ti e).2.2]
    · by_cases e : cntK (dyK z n nf h0.2.2.1 rain w b o) n = 0
      · rw [(d3 e).2.1, (th e).1]; exact x13
      · rw [(d4 e).2.1, (ti e).1]
    · by_cases e : cntK (dyK z n nf h0.2.2.1 rain w b o) n = 0
      · rw [(d3 e).2.2, (th e).2.1]; exact x14
      · rw [(d4 e).2.2, (ti e).2.1]
  · unfold CP
    rw [z3, r19]
    exact cp
  · obtain ⟨k, hk, e1, e4, q⟩ := cc
    refine ⟨k, hk, ?_⟩
    rw [z4, st.2.2.2, rM 38 (by omega), r21 0 (by omega), r21 11 (by omega), r21 12 (by omega), r21 13 (by omega)]
    refine ⟨e1, e4, ?_⟩
    rcases q with q | ⟨q1, q2, q3, q4, q5, q6⟩
    · exact Or.inl q
    · refine Or.inr ⟨q1, q2, q3, q4, q5, fun j hj => ?_⟩
      rw [r21 (j + 1) (by omega)]
      exact q6 j hj
  · exact co2
  · intro i hi
    rw [st.ordl, p.2.2.1]
    exact ch i hi
end DAY
