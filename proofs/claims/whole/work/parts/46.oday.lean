/-! ===== the call of a day ===== -/
theorem wi_day (r : Int32) : wi r (-1) 50 = 0 ↔ (¬ r = -1 ∧ wi r 0 50 = 0) := by
  by_cases e : r = -1
  · subst e
    exact ⟨fun q => absurd q (by decide), fun q => absurd rfl q.1⟩
  · have ne : r.toInt ≠ -1 := fun q => e (Int32.toInt_inj.mp (q.trans (by decide)))
    have m1 : (-1 : Int32).toInt = -1 := by decide
    have m0 : (0 : Int32).toInt = 0 := by decide
    by_cases a : r < 0
    · have a' : r < -1 := by
        rw [Int32.lt_iff_toInt_lt] at a ⊢
        omega
      unfold wi
      rw [if_pos a', if_pos a]
      exact ⟨fun _ => ⟨e, rfl⟩, fun _ => rfl⟩
    · have a' : ¬ r < -1 := by
        rw [Int32.lt_iff_toInt_lt] at a ⊢
        omega
      unfold wi
      rw [if_neg a', if_neg a]
      exact ⟨fun q => ⟨e, q⟩, fun q => q.2⟩
theorem setI_back {h : AH} {a k : Nat} {x : Int32} : setI (setI h a k x) a k (h.2.2.1 a k) = h := by
  have e : u2 (u2 h.2.2.1 a k x) a k (h.2.2.1 a k) = h.2.2.1 := by
    funext a' k'
    by_cases q : a' = a ∧ k' = k
    · obtain ⟨rfl, rfl⟩ := q
      exact u2s
    · have q' : a' ≠ a ∨ k' ≠ k := by
        by_cases q1 : a' = a
        · exact Or.inr (fun q2 => q ⟨q1, q2⟩)
        · exact Or.inl q1
      rw [u2n q', u2n q']
  unfold setI
  simp only
  rw [e]
section OD
variable {z n nf dN hN : Nat} {h : AH}
theorem o_day (C : Cpl z n nf dN hN h) (r : Int32) : ∃ x h1 h2 dN', f_X7_day h z r = some (x, h1) ∧ f_X8_day h1 (aM z n) r = some (x, h2) ∧ Cpl z n nf dN' hN h2 ∧ h1.2.1 (aM z n) = some (.inl 8) := by
  obtain ⟨b, W, V, ct, cf, cx, cp, cc, co, ch⟩ := id C
  obtain ⟨b1, b2, b3, b4, b5⟩ := b
  have s0 := W_z W
  have sM := W_M W
  have e8 : h.2.2.1 z 8 = nI dN := cx.2.1
  have m1 : h.2.2.1 (aM z n) 1 = nI dN := cx.2.2.2.2.2.2.2.2.2.1
  have z9 : h.2.2.1 z 9 = h.2.2.1 (aM z n) 2 := cx.2.2.1
  by_cases hv : wi r (-1) 50 = 0
  · obtain ⟨e, e0⟩ := (wi_day r).mp hv
    refine ⟨-1, h, h, dN, ?_, ?_, C, sM⟩
    · unfold f_X7_day f_X7_day_20 f_X7_day_35
      rw [if_neg e, k_isWithin, if_pos e0, if_pos rfl]
    · unfold f_X8_day f_X8_day_20
      rw [k_isIn, if_pos hv]
  have e15 : f_X7_day h z r = f_X7_day_20 h z r 1 := by
    unfold f_X7_day f_X7_day_15
    by_cases e : r = -1
    · rw [if_pos e]
    · rw [if_neg e, k_isWithin, if_neg (fun q => hv ((wi_day r).mpr ⟨e, q⟩))]
  by_cases hl : dN < 1000
  case neg =>
    have ed : dN = 1000 := by omega
    have eK : (1000 : Int32) = nI 1000 := rfl
    refine ⟨-1, h, h, dN, ?_, ?_, C, sM⟩
    · rw [e15]
      unfold f_X7_day_20 f_X7_day_35
      rw [if_neg one_ne, ev_gI s0, e8, if_neg (by rw [eK, nI_lt_iff (by omega) (by omega)]; exact hl)]
    · unfold f_X8_day f_X8_day_20
      rw [k_isIn, if_neg hv, ev_gI sM, m1, if_pos (by rw [eK, ed])]
  have hlt : nI dN < 1000 := (nI_lt_iff (b := 1000) (by omega) (by omega)).mpr hl
  have hne : ¬ nI dN = 1000 := fun q => by
    have := nI_inj (b := 1000) (by omega) (by omega) q
    omega
  -- the rain
  obtain ⟨hr, rain, er, pr, zr, hx⟩ : ∃ hr rain, f_X7_day h z r = f_X7_day_47 hr z ∧ Ag (fun a k => a = z ∧ k = 9) h hr ∧ hr.2.2.1 z 9 = rain ∧ ∀ hy : AH, hy.2.1 = h.2.1 → hy.2.2.1 (aM z n) 1 = nI dN → hy.2.2.1 (aM z n) 2 = h.2.2.1 z 9 → ∃ hw, f_X8_day hy (aM z n) r = f_X8_day_32 hw (aM z n) ∧ Ag (fun a k => a = aM z n ∧ k = 2) hy hw ∧ hw.2.2.1 (aM z n) 2 = rain := by
    by_cases e : r = -1
    · refine ⟨h, h.2.2.1 z 9, ?_, Ag.rf, rfl, fun hy q1 q2 q3 => ⟨hy, ?_, Ag.rf, q3⟩⟩
      · rw [e15]
        unfold f_X7_day_20
        rw [if_neg one_ne, ev_gI s0, e8, if_pos hlt, if_pos e]
      · unfold f_X8_day
        rw [k_isIn, if_neg hv, ev_gI (by rw [q1]; exact sM), q2, if_neg hne, if_pos e]
    · refine ⟨setI h z 9 r, r, ?_, Ag.rf.set ⟨rfl, rfl⟩, by rw [sI_u, u2s], fun hy q1 q2 q3 => ⟨setI hy (aM z n) 2 r, ?_, Ag.rf.set ⟨rfl, rfl⟩, by rw [sI_u, u2s]⟩⟩
      · rw [e15]
        unfold f_X7_day_20
        rw [if_neg one_ne, ev_gI s0, e8, if_pos hlt, if_neg e, ev_pI s0]
      · unfold f_X8_day
        rw [k_isIn, if_neg hv, ev_gI (by rw [q1]; exact sM), q2, if_neg hne, if_neg e, ev_pI (by rw [q1]; exact sM)]
  have Wr := WS_ag W pr
  have Vr := WR_ag V pr
  -- the silt
  obtain ⟨hs, es, ps, vs⟩ : ∃ hs, f_X7_day_47 hr z = f_X7_day_63 hs z ∧ Ag (tS z n) hr hs ∧ ∀ j, j < n → hs.2.2.1 (aT z n j) 7 = slv dN (hr.2.2.1 (aT z n j) 5) (hr.2.2.1 (aT z n j) 7) := by
    have e8r : hr.2.2.1 z 8 = nI dN := (pr.2.2.2 z 8 (by omega)).trans e8
    unfold f_X7_day_47
    rw [ev_gI (W_z Wr), e8r, ev_rm (by decide)]
    unfold slv
    by_cases e : nI dN + 1 - (nI dN + 1) / 100 * 100 = 0
    · obtain ⟨hs, e1, p1, v1⟩ := v_silt7 Wr Vr ⟨b1, b2⟩
      rw [if_pos e, ev_rcv (W_z Wr), cal_eq e1]
      exact ⟨hs, rfl, p1, fun j hj => by rw [if_pos e]; exact v1 j hj⟩
    · rw [if_neg e]
      exact ⟨hr, rfl, Ag.rf, fun j hj => by rw [if_neg e]⟩
  have Ws := WS_ag Wr ps
  have Vs := WR_ag Vr ps
  have hsJ : ∀ a k, z + 12 + 3 * n ≤ a → a < z + 41 + 3 * n → hs.2.2.1 a k = h.2.2.1 a k := fun a k q1 q2 => (ps.2.2.2 a k (by unfold tS; omega)).trans (pr.2.2.2 a k (by omega))
  have ss : hs.2.1 = h.2.1 := ps.2.1.trans pr.2.1
  have hsM : ∀ k, hs.2.2.1 (aM z n) k = h.2.2.1 (aM z n) k := fun k => hsJ _ _ (by unfold aM; omega) (by unfold aM; omega)
  -- the ghost
  obtain ⟨hw0, ew0, pw0, vw0⟩ := hx hs ss ((hsM 1).trans m1) ((hsM 2).trans z9.symm)
  obtain ⟨h0, -, p0, v0⟩ := l_silt8 (dN := dN) (WS_ag Ws pw0) (WR_ag Vs pw0) ((pw0.2.2.2 _ _ (by omega)).trans ((hsM 0).trans (hM0 cx))) ((pw0.2.2.2 _ _ (by omega)).trans ((hsM 1).trans m1)) b2 FU 0 hw0 (by rw [fu_big]; omega) (by omega) Ag.rf (fun j hj => by omega) (fun j _ => rfl)
  have pg : Ag (fun a k => (a = aM z n ∧ k = 2) ∨ t5 z n a k) hs h0 := (pw0.mo (fun a k q => Or.inl q)).tr (p0.mo (fun a k q => Or.inr q))
  have p : Ag (siC z n) h h0 := ((pr.mo (fun a k q => Or.inl q)).tr (ps.mo (fun a k q => Or.inr (Or.inr (Or.inl q))))).tr (pg.mo (fun a k q => by
    rcases q with q | q
    · exact Or.inr (Or.inl q)
    · exact Or.inr (Or.inr (Or.inr q.1))))
  have h0z : h0.2.2.1 z 9 = rain := by rw [pg.2.2.2 _ _ (by unfold t5 aM; omega), ps.2.2.2 _ _ (by unfold tS; omega)]; exact zr
  have h0m : h0.2.2.1 (aM z n) 2 = rain := by rw [p0.2.2.2 _ _ (by unfold t5 aM; omega)]; exact vw0
  have v0' : ∀ j, j < n → h0.2.2.1 (aJ z n 5) j = slv dN (hs.2.2.1 (aJ z n 1) j) (hs.2.2.1 (aJ z n 5) j) := fun j hj => by
    rw [v0 j hj, pw0.2.2.2 _ _ (by (first | omega | (simp only [aT, aN, aA, aJ, aM, aF, aFl, aFs]; omega))), pw0.2.2.2 _ _ (by (first | omega | (simp only [aT, aN, aA, aJ, aM, aF, aFl, aFs]; omega)))]
  have C0 := Cpl_si C p (h0z.trans h0m.symm) (fun i hi => by
    rw [v0' i hi, pg.2.2.2 _ _ (by unfold t5; (first | omega | (simp only [aT, aN, aA, aJ, aM, aF, aFl, aFs]; omega))), vs i hi, pr.2.2.2 _ _ (by (first | omega | (simp only [aT, aN, aA, aJ, aM, aF, aFl, aFs]; omega))), pr.2.2.2 _ _ (by (first | omega | (simp only [aT, aN, aA, aJ, aM, aF, aFl, aFs]; omega))), hsJ _ _ (by (first | omega | (simp only [aT, aN, aA, aJ, aM, aF, aFl, aFs]; omega))) (by (first | omega | (simp only [aT, aN, aA, aJ, aM, aF, aFl, aFs]; omega))), hsJ _ _ (by (first | omega | (simp only [aT, aN, aA, aJ, aM, aF, aFl, aFs]; omega))) (by (first | omega | (simp only [aT, aN, aA, aJ, aM, aF, aFl, aFs]; omega))), (ct i hi).2.2.1, (ct i hi).2.2.2.2.1])
  have G : Gho z n h0 hs := ⟨pg.1.symm, pg.2.1.symm, pg.2.2.1.symm, fun a k e => (pg.2.2.2 a k (by unfold t5 aM; omega)).symm⟩
  obtain ⟨h1, e7, p7, D⟩ := v_day63 G C0 h0z (w := h0.2.2.1 (aJ z n 3)) (b := h0.2.2.1 (aJ z n 9)) (o := h0.2.2.1 (aJ z n 4)) rfl rfl rfl
  -- the reference
  have W1 := WS_ag Ws p7
  have V1 := WR_ag Vs p7
  have h1M : ∀ k, k < 34 → h1.2.2.1 (aM z n) k = h.2.2.1 (aM z n) k := fun k hk => (p7.2.2.2 _ _ (by rintro (q | q | q | q | q) <;> (try simp only [sc, kT, kF, aJ, aM, aT, aN, aF, aFl, aFs] at q) <;> omega)).trans (hsM k)
  obtain ⟨hw1, ew1, pw1, vw1⟩ := hx h1 (p7.2.1.trans ss) ((h1M 1 (by omega)).trans m1) ((h1M 2 (by omega)).trans z9.symm)
  obtain ⟨hz, ez, pz, vz⟩ := l_silt8 (dN := dN) (WS_ag W1 pw1) (WR_ag V1 pw1) ((pw1.2.2.2 _ _ (by omega)).trans ((h1M 0 (by omega)).trans (hM0 cx))) ((pw1.2.2.2 _ _ (by omega)).trans ((h1M 1 (by omega)).trans m1)) b2 FU 0 hw1 (by rw [fu_big]; omega) (by omega) Ag.rf (fun j hj => by omega) (fun j _ => rfl)
  have pq : Ag (fun a k => (a = aM z n ∧ k = 2) ∨ t5 z n a k) h1 hz := (pw1.mo (fun a k q => Or.inl q)).tr (pz.mo (fun a k q => Or.inr q))
  have pC : Ag (dyC z n) h0 hz := ⟨(pq.1.trans p7.1).trans pg.1.symm, (pq.2.1.trans p7.2.1).trans pg.2.1.symm, (pq.2.2.1.trans p7.2.2.1).trans pg.2.2.1.symm, fun a k s => by
    by_cases a5 : t5 z n a k
    · obtain ⟨q1, q2⟩ := a5
      have q3 : a = aJ z n 5 := by unfold aJ; omega
      subst q3
      rw [vz k q2, v0' k q2, pw1.2.2.2 _ _ (by (first | omega | (simp only [aT, aN, aA, aJ, aM, aF, aFl, aFs]; omega))), pw1.2.2.2 _ _ (by (first | omega | (simp only [aT, aN, aA, aJ, aM, aF, aFl, aFs]; omega))), p7.2.2.2 _ _ (by rintro (q | q | q | q | q) <;> (try simp only [sc, kT, kF, aJ, aM, aT, aN, aF, aFl, aFs] at q) <;> omega), p7.2.2.2 _ _ s]
    · by_cases a2 : a = aM z n ∧ k = 2
      · obtain ⟨rfl, rfl⟩ := a2
        rw [h0m, pz.2.2.2 _ _ a5]
        exact vw1
      · have nn : ¬ ((a = aM z n ∧ k = 2) ∨ t5 z n a k) := fun q => by
          rcases q with q | q
          · exact a2 q
          · exact a5 q
        rw [pq.2.2.2 a k nn, p7.2.2.2 a k s, pg.2.2.2 a k nn]⟩
  have Wz := WS_ag (WS_ag W1 pw1) pz
  have Vz := WR_ag (WR_ag V1 pw1) pz
  have rz : ∀ j, j < 20 → hz.2.2.1 (aJ z n j) = h0.2.2.1 (aJ z n j) := fun j hj => funext (fun k => pC.2.2.2 _ _ (by rintro (q | q | q | q | q) <;> (try simp only [sc, kT, kF, aJ, aM, aT, aN, aF, aFl, aFs] at q) <;> omega))
  have mz : ∀ k, k < 34 → hz.2.2.1 (aM z n) k = h0.2.2.1 (aM z n) k := fun k hk => pC.2.2.2 _ _ (by rintro (q | q | q | q | q) <;> (try simp only [sc, kT, kF, aJ, aM, aT, aN, aF, aFl, aFs] at q) <;> omega)
  have cx0 := C0.2.2.2.2.2.1
  have m10 : h0.2.2.1 (aM z n) 1 = nI dN := cx0.2.2.2.2.2.2.2.2.2.1
  have T0 : Tru8 z n nf dN h0 rain (h0.2.2.1 (aJ z n 3)) (h0.2.2.1 (aJ z n 9)) (h0.2.2.1 (aJ z n 4)) 0 hz := by
    refine ⟨fun j hj => by omega, fun j _ _ => ?_, fun f _ t _ _ ht => by omega, fun f _ t _ _ _ => ?_, ?_, ⟨?_, ?_, ?_⟩, ?_, fun _ => ?_, fun q => absurd rfl q⟩
    · rw [rz 3 (by omega), rz 9 (by omega), rz 8 (by omega)]
      exact ⟨rfl, rfl, rfl⟩
    · rw [rz 15 (by omega), rz 14 (by omega)]
      exact ⟨rfl, rfl⟩
    · unfold CO
      rw [rz 18 (by omega), rz 13 (by omega), rz 12 (by omega), rz 14 (by omega), rz 15 (by omega), rz 16 (by omega)]
      exact C0.2.2.2.2.2.2.2.2.1
    · rw [mz 26 (by omega), sumF, Int32.add_zero]
    · rw [mz 24 (by omega), sumF, Int32.add_zero]
    · rw [mz 25 (by omega), sumF, Int32.add_zero]
    · rw [mz 1 (by omega)]
      exact m10
    · rw [mz 28 (by omega), mz 29 (by omega), mz 30 (by omega)]
      exact ⟨rfl, rfl, rfl⟩
  obtain ⟨h2, x, e9, pt, T, t23⟩ := l_true8 C0 (hz := hz) rfl FU 0 hz 0 (by rw [fu_big]; omega) (by omega) (pC.mo (fun a k q => Or.inl q)) Ag.rf T0 (mz 23 (by omega))
  have W2 := WS_ag Wz pt
  have sM2 := W_M W2
  have m12 : h2.2.2.1 (aM z n) 1 = nI dN := T.2.2.2.2.2.2.1
  have eD : f_X8_day h1 (aM z n) r = some (nI (dN + 1), setI h2 (aM z n) 1 (nI (dN + 1))) := by
    rw [ew1]
    unfold f_X8_day_32
    rw [show (0 : Int32) = nI 0 from rfl, ez]
    unfold g34e
    have sz := W_M Wz
    rw [ev_gR sz, V_J3 Vz, ev_gR sz, V_J9 Vz, ev_gR sz, V_J4 Vz, ev_gI sz, mz 2 (by omega), h0m, ev_rcv sz]
    have e9' : f_X8_flows hz (aM z n) (some (aJ z n 3)) (some (aJ z n 9)) (some (aJ z n 4)) rain 1 = some (x, h2) := by
      unfold f_X8_flows
      rw [dD, cntK, show nI 0 = (0 : Int32) from rfl] at e9
      exact e9
    rw [cal_eq e9', ev_gI sM2, m12, nI_1, ev_pI sM2, ev_gI (by rw [sI_s]; exact sM2), sI_u, u2s]
  refine ⟨nI (dN + 1), h1, setI h2 (aM z n) 1 (nI (dN + 1)), dN + 1, (er.trans es).trans e7, eD, ?_, W_M W1⟩
  have pT : Ag (dyT z n) hz (setI h2 (aM z n) 1 (nI (dN + 1))) := pt.set (Or.inr (by unfold dyR aM; omega))
  have qc : ∀ a k, (a < z + 12 + 3 * n ∨ z + 41 + 3 * n ≤ a) → ¬ sc z n a k → (setI h2 (aM z n) 1 (nI (dN + 1))).2.2.1 a k = h1.2.2.1 a k := fun a k q1 q2 => by
    rw [pT.2.2.2 a k (fun q => by
      rcases q with q | q
      · exact q2 q
      · unfold dyR at q; omega), pq.2.2.2 a k (by unfold t5 aM; omega)]
  refine Cpl_day C0 rfl rfl hl ((pC.mo (fun a k q => Or.inl q)).tr (pT.mo (fun a k q => by
    rcases q with q | q
    · exact Or.inl (Or.inl q)
    · exact Or.inr q))) ?_ (by
      rw [← m12, setI_back]
      exact T) (by rw [sI_u, u2n (Or.inr (by omega))]; exact t23) (by rw [sI_u, u2s])
  obtain ⟨d1, d2, d3, d4, d5, d6, d7, d8, d9⟩ := D
  refine ⟨fun j hj => ?_, fun f hf t ht et => ?_, fun q => ?_, fun q => ?_, ?_, ?_, ?_, ?_, ?_⟩
  · have qN : ∀ k, (setI h2 (aM z n) 1 (nI (dN + 1))).2.2.1 (aN z n j) k = h1.2.2.1 (aN z n j) k := fun k => qc _ _ (by (first | omega | (simp only [aT, aN, aA, aJ, aM, aF, aFl, aFs]; omega))) (by unfold sc; (first | omega | (simp only [aT, aN, aA, aJ, aM, aF, aFl, aFs]; omega)))
    rw [qN, qN, qN, qN, qN, qc (aT z n j) 8 (by (first | omega | (simp only [aT, aN, aA, aJ, aM, aF, aFl, aFs]; omega))) (by unfold sc; (first | omega | (simp only [aT, aN, aA, aJ, aM, aF, aFl, aFs]; omega)))]
    exact d1 j hj
  · have qF : ∀ k, 9 ≤ k → (setI h2 (aM z n) 1 (nI (dN + 1))).2.2.1 (aF z n f) k = h1.2.2.1 (aF z n f) k := fun k hk => qc _ _ (by (first | omega | (simp only [aT, aN, aA, aJ, aM, aF, aFl, aFs]; omega))) (by unfold sc; (first | omega | (simp only [aT, aN, aA, aJ, aM, aF, aFl, aFs]; omega)))
    rw [qF 11 (by omega), qF 10 (by omega), qF 9 (by omega)]
    exact d2 f hf t ht et
  · have qz : ∀ k, (setI h2 (aM z n) 1 (nI (dN + 1))).2.2.1 z k = h1.2.2.1 z k := fun k => qc _ _ (by omega) (by unfold sc; omega)
    rw [qz, qz, qz]
    exact d3 q
  · have qz : ∀ k, (setI h2 (aM z n) 1 (nI (dN + 1))).2.2.1 z k = h1.2.2.1 z k := fun k => qc _ _ (by omega) (by unfold sc; omega)
    rw [qz, qz, qz]
    exact d4 q
  · rw [qc (z + 8) 0 (by omega) (by unfold sc; omega)]; exact d5
  · rw [qc (z + 8) 1 (by omega) (by unfold sc; omega)]; exact d6
  · rw [qc (z + 8) 2 (by omega) (by unfold sc; omega)]; exact d7
  · rw [qc (z + 8) 3 (by omega) (by unfold sc; omega)]; exact d8
  · rw [qc z 8 (by omega) (by unfold sc; omega)]; exact d9
end OD
