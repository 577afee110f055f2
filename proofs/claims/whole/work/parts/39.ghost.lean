/-! ===== the class's day, the reference's rows given by J ===== -/
section GH
variable {z n nf dN hN : Nat} {h : AH}
theorem g_taken7 {J : Nat → Nat → Int32} (C : Cpl z n nf dN hN (h.1, h.2.1, J, h.2.2.2)) (E : ∀ a k, (a < z + 12 + 3 * n ∨ z + 41 + 3 * n ≤ a) → h.2.2.1 a k = J a k) {i q : Nat} (hi : i < n) (hq : q ≤ 20) (hop : h.2.2.1 (aA z n i) 1 = nI q) (has : Int32) : ∃ h', f_X2_takenByFields h (aFl z n) (some (aT z n i)) has = some (sumI (gShr z n J i has (nI q) (ordl z n nf J i)) (ordl z n nf J i) 0, h') ∧ Ag (fun a k => c78 z n (ordl z n nf J i) a k ∨ (a = aFl z n ∧ k = 3)) h h' ∧ (∀ f ∈ ordl z n nf J i, h'.2.2.1 (aF z n f) 7 = gShr z n J i has (nI q) (ordl z n nf J i) f) ∧ h'.2.2.1 (aFl z n) 3 = sumI (fedF (J (aJ z n 12)) (gShr z n J i has (nI q) (ordl z n nf J i))) (ordl z n nf J i) (h.2.2.1 (aFl z n) 3) := by
  obtain ⟨b, W', V', ct, cf0, cx, cp, cc, co, ch⟩ := id C
  have W : WS z n nf h := W'
  have V : WR z n nf h := V'
  have cf : ∀ f, f < nf → h.2.2.1 (aF z n f) 2 = J (aJ z n 11) f ∧ h.2.2.1 (aF z n f) 3 = J (aJ z n 12) f ∧ ∃ q, q ≤ 9 ∧ J (aJ z n 11) f = nI q := fun f hf => by
    obtain ⟨-, -, x2, x3, -, -, -, -, -, -, y, -⟩ := cf0 f hf
    exact ⟨(E _ _ (by unfold aF; omega)).trans x2, (E _ _ (by unfold aF; omega)).trans x3, y⟩
  obtain ⟨b1, b2, b3, b4, b5⟩ := b
  have A : ∀ f, f < nf → MD z n J f := fun f hf => (AF_of C).2.2.2.2.2 f hf
  have sT := W_T W hi
  have sL := W_fl W
  have s4 := W_cu W
  have sA := W_A W hi
  obtain ⟨kc, -, -, -, c11', c12', c13', c01', -⟩ := CC_use cc
  have z4 : ∀ k, h.2.2.1 (z + 4) k = J (z + 4) k := fun k => E _ _ (by omega)
  have c11 : cusV z n J 11 9 = h.2.2.1 (z + 4) 2 := by rw [z4]; exact c11'
  have c12 : cusV z n J 12 0 = h.2.2.1 (z + 4) 3 := by rw [z4]; exact c12'
  have c13 : cusV z n J 13 0 = h.2.2.1 (z + 4) 4 := by rw [z4]; exact c13'
  have c01 : h.2.2.1 (z + 4) 4 = 0 ∨ h.2.2.1 (z + 4) 4 = 1 := by rw [z4]; exact c01'
  obtain ⟨-, -, t5', -⟩ := ct i hi
  have t5 : h.2.2.1 (aT z n i) 5 = J (aJ z n 1) i := (E _ _ (by unfold aT; omega)).trans t5'
  have hch : Chn z n h.2.2.2 (h.2.2.2 (aT z n i) 9) (ordl z n nf J i) := ch i hi
  have hd : (ordl z n nf J i).Nodup := ordl_nodup
  have hlen : (ordl z n nf J i).length ≤ 40 := by
    have := ordl_len (z := z) (n := n) (nf := nf) i J
    omega
  obtain ⟨g, hg, eg⟩ := givI_nI (z := z) (n := n) (I := J) (i := i) (has := has) (op := nI q) rfl hq
  have eg' : (givI z n J i has (nI q)).toNatClampNeg = g := by rw [eg, nI_clamp (by omega)]
  have hcA : ∀ f ∈ ordl z n nf J i, cFr z n J i has f ≤ 20 ∧ if outF z n J i has f = true then cFr z n J i has f = 0 else J (aJ z n 12) f = nI (cFr z n J i has f) := by
    intro f hf
    obtain ⟨-, ⟨a, a1, a2, ea⟩, -⟩ := A f (ordl_mem.mp hf).1
    unfold cFr cAr
    by_cases e : outF z n J i has f = true
    · rw [if_pos e, if_pos e]
      exact ⟨by omega, rfl⟩
    · rw [if_neg e, if_neg e, ea, nI_clamp (by omega)]
      exact ⟨a2, rfl⟩
  have har : sN (cFr z n J i has) (ordl z n nf J i) < 1000 := by
    have := sN_le (c := cFr z n J i has) (k := 20) (ordl z n nf J i) (fun f hf => (hcA f hf).1)
    omega
  -- when the shares stand: the sum
  have fin : ∀ h1, Ag (c78 z n (ordl z n nf J i)) h h1 → (∀ f ∈ ordl z n nf J i, h1.2.2.1 (aF z n f) 7 = gShr z n J i has (nI q) (ordl z n nf J i) f) → ∃ h', f_X2_takenByFields_103 h1 (aFl z n) (some (aT z n i)) = some (sumI (gShr z n J i has (nI q) (ordl z n nf J i)) (ordl z n nf J i) 0, h') ∧ Ag (fun a k => c78 z n (ordl z n nf J i) a k ∨ (a = aFl z n ∧ k = 3)) h h' ∧ (∀ f ∈ ordl z n nf J i, h'.2.2.1 (aF z n f) 7 = gShr z n J i has (nI q) (ordl z n nf J i) f) ∧ h'.2.2.1 (aFl z n) 3 = sumI (fedF (J (aJ z n 12)) (gShr z n J i has (nI q) (ordl z n nf J i))) (ordl z n nf J i) (h.2.2.1 (aFl z n) 3) := by
    intro h1 p1 hS
    have hne : ∀ f, aF z n f ≠ aFl z n := fun f => by (first | omega | (simp only [aT, aN, aA, aJ, aM, aF, aFl, aFs]; omega))
    unfold f_X2_takenByFields_103
    rw [ev_gR (by rw [p1.2.1]; exact sT)]
    obtain ⟨h', q1, q2, q3⟩ := l_sum7 (A := J (aJ z n 12)) hne (ordl z n nf J i) (h1.2.2.2 (aT z n i) 9) FU 0 h1 (by rw [p1.2.2.1]; exact hch) (by rw [p1.2.1]; exact sL) (fun f hf => ⟨by rw [p1.2.1]; exact W_F W (ordl_mem.mp hf).1, hS f hf, by rw [p1.2.2.2 _ _ (fun q => by rcases q.2 with q | q <;> omega)]; exact (cf f (ordl_mem.mp hf).1).2.1⟩) (by rw [fu_big]; omega)
    refine ⟨h', q1, (p1.mo (fun a k q => Or.inl q)).tr (q2.mo (fun a k q => Or.inr q)), fun f hf => ?_, ?_⟩
    · rw [q2.2.2.2 _ _ (fun q => hne f q.1)]
      exact hS f hf
    · rw [q3, p1.2.2.2 (aFl z n) 3 (fun q => by
        obtain ⟨⟨f, -, e⟩, -⟩ := q
        exact hne f e.symm)]
  have c55 : ∀ reach : Int32, (∀ f ∈ ordl z n nf J i, reach < h.2.2.1 (aF z n f) 2 ↔ outF z n J i has f = true) → ∃ h', f_X2_takenByFields_55 h (aFl z n) (some (aT z n i)) (nI g) reach = some (sumI (gShr z n J i has (nI q) (ordl z n nf J i)) (ordl z n nf J i) 0, h') ∧ Ag (fun a k => c78 z n (ordl z n nf J i) a k ∨ (a = aFl z n ∧ k = 3)) h h' ∧ (∀ f ∈ ordl z n nf J i, h'.2.2.1 (aF z n f) 7 = gShr z n J i has (nI q) (ordl z n nf J i) f) ∧ h'.2.2.1 (aFl z n) 3 = sumI (fedF (J (aJ z n 12)) (gShr z n J i has (nI q) (ordl z n nf J i))) (ordl z n nf J i) (h.2.2.1 (aFl z n) 3) := by
    intro reach hre
    have rd : Rd z n (outF z n J i has) (J (aJ z n 12)) reach (ordl z n nf J i) h := fun f hf => ⟨W_F W (ordl_mem.mp hf).1, hre f hf, (cf f (ordl_mem.mp hf).1).2.1⟩
    have ea := l_areas7 (c := cFr z n J i has) (ordl z n nf J i) (h.2.2.2 (aT z n i) 9) FU 0 hch rd (fun f hf => (hcA f hf).2) (by rw [fu_big]; omega)
    rw [Nat.zero_add] at ea
    have ea' : f_X2_areasWithin h (some (aT z n i)) reach = some (nI (sN (cFr z n J i has) (ordl z n nf J i)), h) := by
      unfold f_X2_areasWithin
      rw [ev_gR sT]
      exact ea
    have ino : ¬ (cusV z n J 13 0 = 1 ∧ ¬ nI (sN (cFr z n J i has) (ordl z n nf J i)) ≤ givI z n J i has (nI q)) → ∃ h', f_X2_takenByFields_95 h (aFl z n) (some (aT z n i)) (nI g) reach = some (sumI (gShr z n J i has (nI q) (ordl z n nf J i)) (ordl z n nf J i) 0, h') ∧ Ag (fun a k => c78 z n (ordl z n nf J i) a k ∨ (a = aFl z n ∧ k = 3)) h h' ∧ (∀ f ∈ ordl z n nf J i, h'.2.2.1 (aF z n f) 7 = gShr z n J i has (nI q) (ordl z n nf J i) f) ∧ h'.2.2.1 (aFl z n) 3 = sumI (fedF (J (aJ z n 12)) (gShr z n J i has (nI q) (ordl z n nf J i))) (ordl z n nf J i) (h.2.2.1 (aFl z n) 3) := by
      intro hno
      obtain ⟨h1, e1, p1, hS⟩ := l_order7s (ordl z n nf J i) (h.2.2.2 (aT z n i) 9) FU (nI g) h hd hch rd (by rw [fu_big]; omega)
      have e1' : f_X2_shareInOrder h (some (aT z n i)) reach (nI g) = some ((), h1) := by
        unfold f_X2_shareInOrder
        rw [ev_gR sT]
        exact e1
      unfold f_X2_takenByFields_95
      rw [cal_eq e1']
      refine fin h1 p1 (fun f hf => ?_)
      rw [hS f hf]
      unfold gShr
      rw [if_neg hno, eg]
    unfold f_X2_takenByFields_55
    rw [cal_eq ea', ev_gR sL, V_fl1 V, ev_gI s4]
    by_cases e0 : h.2.2.1 (z + 4) 4 = 0
    · rw [if_pos e0]
      exact ino (fun x => by
        have := x.1
        rw [c13, e0] at this
        exact absurd this (by decide))
    · rw [if_neg e0]
      have e1 : cusV z n J 13 0 = 1 := by
        rw [c13]
        rcases c01 with x | x
        · exact absurd x e0
        · exact x
      by_cases e2 : nI (sN (cFr z n J i has) (ordl z n nf J i)) ≤ nI g
      · rw [if_pos e2]
        exact ino (fun x => x.2 (by rw [eg]; exact e2))
      · rw [if_neg e2]
        have hgar : g < sN (cFr z n J i has) (ordl z n nf J i) := by
          rw [nI_le_iff (by omega) (by omega)] at e2
          omega
        obtain ⟨b1', b2'⟩ := sN_base_le (c := cFr z n J i has) (g := g) (l := ordl z n nf J i) rfl (by omega)
        obtain ⟨h1, e3, p1, hS1⟩ := l_fair7s hg (ar := sN (cFr z n J i has) (ordl z n nf J i)) (by omega) har (some (aT z n i)) (ordl z n nf J i) (h.2.2.2 (aT z n i) 9) FU 0 h hd hch rd hcA (by omega) (by rw [fu_big]; omega)
        rw [Nat.sub_zero] at e3
        obtain ⟨h2, e4, p2, hS2⟩ := l_more88 (z := z) (n := n) (ar := sN (cFr z n J i has) (ordl z n nf J i)) (by omega) har hd hlen (aTi := aT z n i) (g - sN (fun f => g * cFr z n J i has f / sN (cFr z n J i has) (ordl z n nf J i)) (ordl z n nf J i)) FU h1 (fun f => g * cFr z n J i has f / sN (cFr z n J i has) (ordl z n nf J i)) (fun f => g * cFr z n J i has f % sN (cFr z n J i has) (ordl z n nf J i)) (by rw [fu_big]; omega) (by omega) (by rw [p1.2.1]; exact sT) (by rw [p1.2.2.1]; exact hch) (fun f hf => ⟨by rw [p1.2.1]; exact W_F W (ordl_mem.mp hf).1, (hS1 f hf).1, (hS1 f hf).2, Nat.mod_lt _ (by omega)⟩) (by rw [b2']; exact Nat.le_refl _)
        have e5 : f_X2_shareFairly h (some (aT z n i)) reach (nI g) (nI (sN (cFr z n J i has) (ordl z n nf J i))) = some ((), h2) := by
          unfold f_X2_shareFairly
          rw [ev_gR sT, e3, e4]
        rw [cal_eq e5]
        refine fin h2 (p1.tr p2) (fun f hf => ?_)
        rw [hS2 f hf]
        unfold gShr
        rw [if_pos ⟨e1, by rw [eg]; exact e2⟩, eg']
  unfold f_X2_takenByFields
  rw [ev_gI sT, ev_gR sL, V_fl1 V, ev_gI s4, ev_dv (by decide), ev_gR sT, V_A V hi, ev_gI sA, ev_bd, ev_bd, ev_rcv sT, k_bad7 W hi]
  have ev : mn (h.2.2.1 (aA z n i) 1) (mx 0 (has - h.2.2.1 (aT z n i) 5 * h.2.2.1 (z + 4) 3 / 100)) = nI g := by
    rw [hop, t5, Int32.mul_comm, ← c12]
    exact eg
  rw [ev]
  have far : ∀ f ∈ ordl z n nf J i, h.2.2.1 (aF z n f) 2 = J (aJ z n 11) f ∧ ∃ q, q ≤ 9 ∧ J (aJ z n 11) f = nI q := by
    intro f hf
    obtain ⟨x, -, y⟩ := cf f (ordl_mem.mp hf).1
    exact ⟨x, y⟩
  by_cases e : bad (h.2.2.1 (aT z n i) 5) has = 0
  · rw [if_pos e]
    refine c55 9 (fun f hf => ?_)
    obtain ⟨x1, q', x2, x3⟩ := far f hf
    unfold outF
    rw [← t5, e, x1, x3]
    constructor
    · intro y
      have := (nI_lt_iff (a := 9) (by omega) (by omega)).mp y
      omega
    · intro y
      simp at y
  · rw [if_neg e, ev_gR sL, V_fl1 V, ev_gI s4]
    refine c55 _ (fun f hf => ?_)
    obtain ⟨x1, q', x2, x3⟩ := far f hf
    unfold outF
    rw [← t5, x1, c11]
    constructor
    · intro y
      rw [decide_eq_true (And.intro e (Int32.not_le.mpr y))]
    · intro y
      exact Int32.not_le.mp (of_decide_eq_true y).2
end GH
