/-! ===== the day: what the class keeps ===== -/
/-- how many of the first break, and which first -/
def cntK (K : Nat → Bool) : Nat → Nat
  | 0 => 0
  | i + 1 => if K i = true then cntK K i + 1 else cntK K i
def fstK (K : Nat → Bool) : Nat → Int32
  | 0 => -1
  | i + 1 => if K i = true ∧ cntK K i = 0 then nI i else fstK K i
theorem cntK_le (K : Nat → Bool) : ∀ i, cntK K i ≤ i := by
  intro i
  induction i with
  | zero => exact Nat.le_refl 0
  | succ i ih => rw [cntK]; split <;> omega
theorem cntK_congr {K K' : Nat → Bool} : ∀ i, (∀ j, j < i → K j = K' j) → cntK K i = cntK K' i := by
  intro i
  induction i with
  | zero => intro _; rfl
  | succ i ih => intro h; rw [cntK, cntK, ih (fun j hj => h j (by omega)), h i (by omega)]
theorem fstK_congr {K K' : Nat → Bool} : ∀ i, (∀ j, j < i → K j = K' j) → fstK K i = fstK K' i := by
  intro i
  induction i with
  | zero => intro _; rfl
  | succ i ih => intro h; rw [fstK, fstK, ih (fun j hj => h j (by omega)), h i (by omega), cntK_congr i (fun j hj => h j (by omega))]
def kT (z n a k : Nat) : Prop := (z + 10 ≤ a ∧ a < z + 10 + 3 * n ∧ ((a - (z + 10)) % 3 = 1 ∨ ((a - (z + 10)) % 3 = 0 ∧ k = 8))) ∨ (a = z ∧ (k = 12 ∨ k = 13 ∨ k = 14))
def kF (z n a k : Nat) : Prop := z + 41 + 3 * n ≤ a ∧ (k = 9 ∨ k = 10 ∨ k = 11)
section K7
variable {z n nf dN hN : Nat} {hp : AH}
/-- tank j is kept -/
def Kep (z n dN : Nat) (K : Nat → Bool) (hp h : AH) (j : Nat) : Prop := (∀ k, k < 5 → h.2.2.1 (aN z n j) k = hp.2.2.1 (aA z n j) k) ∧ h.2.2.1 (aT z n j) 8 = if K j = true then nI dN else hp.2.2.1 (aT z n j) 8
theorem l_keep7 (W0 : WS z n nf hp) (V0 : WR z n nf hp) (hn : n ≤ 11) {K : Nat → Bool} (hd : hp.2.2.1 z 8 = nI dN) (hK : ∀ j, j < n → (hp.2.2.1 (aA z n j) 2 = 0 ∨ hp.2.2.1 (aA z n j) 2 = 1) ∧ (K j = true ↔ ¬ hp.2.2.1 (aA z n j) 2 = 0 ∧ hp.2.2.1 (aN z n j) 2 = 0) ∧ hp.2.2.1 (aT z n j) 0 = nI j) : ∀ (m i : Nat) (h : AH), n - i < m → i ≤ n → Ag (kT z n) hp h → (∀ j, j < i → Kep z n dN K hp h j) → (∀ j, i ≤ j → j < n → h.2.2.1 (aN z n j) 2 = hp.2.2.1 (aN z n j) 2 ∧ h.2.2.1 (aT z n j) 8 = hp.2.2.1 (aT z n j) 8) → (h.2.2.1 z 12 = hp.2.2.1 z 12 ∧ h.2.2.1 z 13 = hp.2.2.1 z 13 ∧ h.2.2.1 z 14 = hp.2.2.1 z 14) → ∃ h', f_X7_keepTanks_12 m h z (nI (cntK K i)) (fstK K i) (ptr z n i) = some ((), h') ∧ Ag (kT z n) hp h' ∧ (∀ j, j < n → Kep z n dN K hp h' j) ∧ (cntK K n = 0 → h'.2.2.1 z 12 = hp.2.2.1 z 12 ∧ h'.2.2.1 z 13 = hp.2.2.1 z 13 ∧ h'.2.2.1 z 14 = hp.2.2.1 z 14) ∧ (cntK K n ≠ 0 → h'.2.2.1 z 12 = nI dN ∧ h'.2.2.1 z 13 = fstK K n ∧ h'.2.2.1 z 14 = nI (cntK K n)) := by
  intro m
  induction m with
  | zero => intro i h h1; omega
  | succ m ih =>
    intro i h h1 h2 p hdn hr hz
    have W := WS_ag W0 p
    have V := WR_ag V0 p
    have s0 := W_z W
    have e8 : h.2.2.1 z 8 = nI dN := (p.2.2.2 z 8 (by unfold kT; omega)).trans hd
    unfold f_X7_keepTanks_12 ptr
    by_cases hi : i < n
    · have sT := W_T W hi
      have sA := W_A W hi
      have sN := W_N W hi
      obtain ⟨k1, k2, k3⟩ := hK i hi
      obtain ⟨r1, r2⟩ := hr i (Nat.le_refl i) hi
      have eA : ∀ k, h.2.2.1 (aA z n i) k = hp.2.2.1 (aA z n i) k := fun k => p.2.2.2 _ _ (by unfold kT aA; omega)
      have eT0 : h.2.2.1 (aT z n i) 0 = nI i := (p.2.2.2 _ _ (by unfold kT aT; omega)).trans k3
      have AN : aA z n i ≠ aN z n i := by unfold aN aA; omega
      -- the pool is kept, and on
      have fin : ∀ (hx : AH) (c : Nat) (s : Int32), c = cntK K (i + 1) → s = fstK K (i + 1) → Ag (kT z n) hp hx → (∀ j, j < i → Kep z n dN K hp hx j) → (∀ j, i < j → j < n → hx.2.2.1 (aN z n j) 2 = hp.2.2.1 (aN z n j) 2 ∧ hx.2.2.1 (aT z n j) 8 = hp.2.2.1 (aT z n j) 8) → (hx.2.2.1 z 12 = hp.2.2.1 z 12 ∧ hx.2.2.1 z 13 = hp.2.2.1 z 13 ∧ hx.2.2.1 z 14 = hp.2.2.1 z 14) → hx.2.2.1 (aT z n i) 8 = (if K i = true then nI dN else hp.2.2.1 (aT z n i) 8) → ∃ h', f_X7_keepTanks_60 (f_X7_keepTanks_12 m) hx z (nI c) s (some (aT z n i)) = some ((), h') ∧ Ag (kT z n) hp h' ∧ (∀ j, j < n → Kep z n dN K hp h' j) ∧ (cntK K n = 0 → h'.2.2.1 z 12 = hp.2.2.1 z 12 ∧ h'.2.2.1 z 13 = hp.2.2.1 z 13 ∧ h'.2.2.1 z 14 = hp.2.2.1 z 14) ∧ (cntK K n ≠ 0 → h'.2.2.1 z 12 = nI dN ∧ h'.2.2.1 z 13 = fstK K n ∧ h'.2.2.1 z 14 = nI (cntK K n)) := by
        intro hx c s hc hs px xd xr xz x8
        subst hc hs
        have Wx := WS_ag W0 px
        have Vx := WR_ag V0 px
        have xT := W_T Wx hi
        have xA := W_A Wx hi
        have xN := W_N Wx hi
        have xe : ∀ k, hx.2.2.1 (aA z n i) k = hp.2.2.1 (aA z n i) k := fun k => px.2.2.2 _ _ (by unfold kT aA; omega)
        have e1 : f_X3_becomeAs hx (aN z n i) (some (aA z n i)) = some ((), setI (setI (setI (setI (setI hx (aN z n i) 0 (hp.2.2.1 (aA z n i) 0)) (aN z n i) 1 (hp.2.2.1 (aA z n i) 1)) (aN z n i) 2 (hp.2.2.1 (aA z n i) 2)) (aN z n i) 3 (hp.2.2.1 (aA z n i) 3)) (aN z n i) 4 (hp.2.2.1 (aA z n i) 4)) := by
          unfold f_X3_becomeAs
          rw [ev_gI xA, ev_pI xN, ev_gI (by rw [sI_s]; exact xA), ev_pI (by rw [sI_s]; exact xN), ev_gI (by simp only [sI_s]; exact xA)]
          simp only [sI_u, u2_ne _ _ AN, xe]
          rw [ev_pZ (by simp only [sI_s]; exact xN) k1, ev_gI (by simp only [sI_s]; exact xA), ev_pI (by simp only [sI_s]; exact xN), ev_gI (by simp only [sI_s]; exact xA)]
          simp only [sI_u, u2_ne _ _ AN, xe]
          rw [ev_pI (by simp only [sI_s]; exact xN)]
        have hsc : ∀ k, kT z n (aN z n i) k := fun k => by unfold kT aN; omega
        unfold f_X7_keepTanks_60
        rw [ev_gR xT, V_N Vx hi, ev_gR xT, V_A Vx hi, ev_rcv xN, cal_eq e1, ev_gR (by simp only [sI_s]; exact xT)]
        simp only [sI_r]
        rw [V_bel Vx hi]
        have ZN : z ≠ aN z n i := by unfold aN; omega
        refine ih (i + 1) _ (by omega) (by omega) (((((px.set (hsc 0)).set (hsc 1)).set (hsc 2)).set (hsc 3)).set (hsc 4)) (fun j hj => ?_) (fun j hj hjn => ?_) ?_
        · by_cases e : j = i
          · subst e
            have TN : aT z n j ≠ aN z n j := by unfold aN aT; omega
            refine ⟨fun k hk => ?_, ?_⟩
            · rcases (show k = 0 ∨ k = 1 ∨ k = 2 ∨ k = 3 ∨ k = 4 by omega) with rfl | rfl | rfl | rfl | rfl <;> simp (disch := first | (refine Or.inr ?_; omega)) only [sI_u, u2n, u2s]
            · simp only [sI_u, u2_ne _ _ TN]
              exact x8
          · have ne : aN z n j ≠ aN z n i := by unfold aN; omega
            have ne2 : aT z n j ≠ aN z n i := by unfold aN aT; omega
            obtain ⟨y1, y2⟩ := xd j (by omega)
            refine ⟨fun k hk => ?_, ?_⟩
            · simp only [sI_u, u2_ne _ _ ne]
              exact y1 k hk
            · simp only [sI_u, u2_ne _ _ ne2]
              exact y2
        · have ne : aN z n j ≠ aN z n i := by unfold aN; omega
          have ne2 : aT z n j ≠ aN z n i := by unfold aN aT; omega
          simp only [sI_u, u2_ne _ _ ne, u2_ne _ _ ne2]
          exact xr j (by omega) hjn
        · simp only [sI_u, u2_ne _ _ ZN]
          exact xz
      rw [if_pos hi, ev_nulS, ev_gR sT, V_A V hi, ev_gI sA, eA]
      -- no breach on this day
      have no : ¬ K i = true → ∃ h', f_X7_keepTanks_60 (f_X7_keepTanks_12 m) h z (nI (cntK K i)) (fstK K i) (some (aT z n i)) = some ((), h') ∧ Ag (kT z n) hp h' ∧ (∀ j, j < n → Kep z n dN K hp h' j) ∧ (cntK K n = 0 → h'.2.2.1 z 12 = hp.2.2.1 z 12 ∧ h'.2.2.1 z 13 = hp.2.2.1 z 13 ∧ h'.2.2.1 z 14 = hp.2.2.1 z 14) ∧ (cntK K n ≠ 0 → h'.2.2.1 z 12 = nI dN ∧ h'.2.2.1 z 13 = fstK K n ∧ h'.2.2.1 z 14 = nI (cntK K n)) := fun q => fin h _ _ (by rw [cntK, if_neg q]) (by rw [fstK, if_neg (fun x => q x.1)]) p hdn (fun j hj hjn => hr j (by omega) hjn) hz (by rw [if_neg q]; exact r2)
      by_cases e : hp.2.2.1 (aA z n i) 2 = 0
      · rw [if_pos e]
        exact no (fun q => (k2.mp q).1 e)
      · rw [if_neg e, ev_gR sT, V_N V hi, ev_gI sN, r1]
        by_cases e2 : hp.2.2.1 (aN z n i) 2 = 0
        · have q : K i = true := k2.mpr ⟨e, e2⟩
          rw [if_pos e2, ev_gI s0, e8, ev_pI sT]
          have TT : ∀ j, j ≠ i → j < n → aT z n j ≠ aT z n i := fun j hj hjn => by unfold aT; omega
          have ZT : z ≠ aT z n i := by unfold aT; omega
          have NT : ∀ j, j < n → aN z n j ≠ aT z n i := fun j hjn => by unfold aN aT; omega
          have px : Ag (kT z n) hp (setI h (aT z n i) 8 (nI dN)) := p.set (by unfold kT aT; omega)
          have go : ∀ s, s = fstK K (i + 1) → ∃ h', f_X7_keepTanks_56 (f_X7_keepTanks_12 m) (setI h (aT z n i) 8 (nI dN)) z (nI (cntK K i)) (some (aT z n i)) s = some ((), h') ∧ Ag (kT z n) hp h' ∧ (∀ j, j < n → Kep z n dN K hp h' j) ∧ (cntK K n = 0 → h'.2.2.1 z 12 = hp.2.2.1 z 12 ∧ h'.2.2.1 z 13 = hp.2.2.1 z 13 ∧ h'.2.2.1 z 14 = hp.2.2.1 z 14) ∧ (cntK K n ≠ 0 → h'.2.2.1 z 12 = nI dN ∧ h'.2.2.1 z 13 = fstK K n ∧ h'.2.2.1 z 14 = nI (cntK K n)) := by
            intro s hs
            unfold f_X7_keepTanks_56
            rw [ev_bd, nI_1]
            refine fin _ _ s (by rw [cntK, if_pos q]) hs px (fun j hj => ?_) (fun j hj hjn => ?_) ?_ ?_
            · obtain ⟨y1, y2⟩ := hdn j hj
              refine ⟨fun k hk => ?_, ?_⟩
              · rw [sI_u, u2_ne _ _ (NT j (by omega))]; exact y1 k hk
              · rw [sI_u, u2_ne _ _ (TT j (by omega) (by omega))]; exact y2
            · obtain ⟨y1, y2⟩ := hr j (by omega) hjn
              refine ⟨?_, ?_⟩
              · rw [sI_u, u2_ne _ _ (NT j hjn)]; exact y1
              · rw [sI_u, u2_ne _ _ (TT j (by omega) hjn)]; exact y2
            · rw [sI_u, u2_ne _ _ ZT]; exact hz
            · rw [sI_u, u2s, if_pos q]
          by_cases e3 : cntK K i = 0
          · have e3' : nI (cntK K i) = 0 := by rw [e3]; rfl
            rw [if_pos e3', ev_gI (by rw [sI_s]; exact sT), sI_u, u2n (Or.inr (by omega)), eT0]
            exact go _ (by rw [fstK, if_pos ⟨q, e3⟩])
          · have := cntK_le K i
            have e3' : ¬ nI (cntK K i) = 0 := fun x => e3 (nI_inj (by omega) (by omega) x)
            rw [if_neg e3']
            exact go _ (by rw [fstK, if_neg (fun x => e3 x.2)])
        · rw [if_neg e2]
          exact no (fun q => e2 (k2.mp q).2)
    · have e : i = n := by omega
      subst e
      rw [if_neg (Nat.lt_irrefl i), ev_nulN]
      unfold f_X7_keepTanks_101
      have := cntK_le K i
      by_cases e3 : cntK K i = 0
      · rw [if_pos (by rw [e3]; exact (nI_le_iff (a := 0) (b := 0) (by omega) (by omega)).mpr (Nat.le_refl 0))]
        exact ⟨h, rfl, p, hdn, fun _ => hz, fun x => absurd e3 x⟩
      · rw [if_neg (fun x => e3 (by have := (nI_le_iff (b := 0) (by omega) (by omega)).mp x; omega)), ev_gI s0, e8, ev_pI s0, ev_pI (by rw [sI_s]; exact s0), ev_pI (by simp only [sI_s]; exact s0)]
        refine ⟨_, rfl, ((p.set (by unfold kT; omega)).set (by unfold kT; omega)).set (by unfold kT; omega), fun j hj => ?_, fun x => absurd x e3, fun _ => ⟨?_, ?_, ?_⟩⟩
        · have ne : aN z i j ≠ z := by unfold aN; omega
          have ne2 : aT z i j ≠ z := by unfold aT; omega
          obtain ⟨y1, y2⟩ := hdn j hj
          refine ⟨fun k hk => ?_, ?_⟩
          · simp only [sI_u, u2_ne _ _ ne]; exact y1 k hk
          · simp only [sI_u, u2_ne _ _ ne2]; exact y2
        · simp (disch := first | (refine Or.inr ?_; omega)) only [sI_u, u2n, u2s]
        · simp (disch := first | (refine Or.inr ?_; omega)) only [sI_u, u2n, u2s]
        · simp (disch := first | (refine Or.inr ?_; omega)) only [sI_u, u2n, u2s]
/-- field f is kept -/
def KepF (z n : Nat) (hq h : AH) (f : Nat) : Prop := h.2.2.1 (aF z n f) 11 = hq.2.2.1 (aF z n f) 7 ∧ h.2.2.1 (aF z n f) 10 = hq.2.2.1 (aF z n f) 10 + hq.2.2.1 (aF z n f) 7 ∧ h.2.2.1 (aF z n f) 9 = if hq.2.2.1 (aF z n f) 7 = hq.2.2.1 (aF z n f) 3 then hq.2.2.1 (aF z n f) 9 + 1 else hq.2.2.1 (aF z n f) 9
theorem l_keepF {hq : AH} (W0 : WS z n nf hq) (V0 : WR z n nf hq) (hf40 : nf ≤ 40) (h7 : hq.2.2.1 z 7 = nI nf) : ∀ (m i : Nat) (h : AH), nf - i < m → i ≤ nf → Ag (kF z n) hq h → (∀ f, f < i → KepF z n hq h f) → (∀ f, i ≤ f → h.2.2.1 (aF z n f) = hq.2.2.1 (aF z n f)) → ∃ h', f_X7_keepFields_2 m h z (nI i) = some ((), h') ∧ Ag (kF z n) hq h' ∧ ∀ f, f < nf → KepF z n hq h' f := by
  intro m
  induction m with
  | zero => intro i h h1; omega
  | succ m ih =>
    intro i h h1 h2 p hd hr
    have W := WS_ag W0 p
    have V := WR_ag V0 p
    have s0 := W_z W
    have e7 : h.2.2.1 z 7 = nI nf := (p.2.2.2 z 7 (by unfold kF; omega)).trans h7
    unfold f_X7_keepFields_2
    rw [ev_gI s0, e7]
    by_cases hi : i < nf
    · have sF := W_F W hi
      have r := hr i (Nat.le_refl i)
      have ha : f_X7_fieldAt h z (nI i) = some (some (aF z n i), h) := by
        rw [v_fieldAt W V, if_pos ⟨nI_pos (by omega), fun q => by
          have q : nI 40 ≤ nI i := q
          rw [nI_le_iff (by omega) (by omega)] at q
          omega⟩, nI_clamp (by omega), if_pos hi]
      have FF : ∀ f, f ≠ i → aF z n f ≠ aF z n i := fun f hf => aF_ne hf
      have k9 : kF z n (aF z n i) 9 := by unfold kF aF; omega
      have k10 : kF z n (aF z n i) 10 := by unfold kF aF; omega
      have k11 : kF z n (aF z n i) 11 := by unfold kF aF; omega
      have e1 : ∃ hx, f_X1_keepShare h (aF z n i) = some ((), hx) ∧ Ag (kF z n) hq hx ∧ KepF z n hq hx i ∧ ∀ f, f ≠ i → hx.2.2.1 (aF z n f) = h.2.2.1 (aF z n f) := by
        unfold f_X1_keepShare f_X1_keepShare_38
        rw [ev_gI sF, ev_pI sF, ev_gI (by rw [sI_s]; exact sF), ev_gI (by rw [sI_s]; exact sF), ev_pI (by rw [sI_s]; exact sF), ev_rcv (by simp only [sI_s]; exact sF), cal_eq (v_isFed (by simp only [sI_s]; exact sF))]
        simp (disch := first | (refine Or.inr ?_; omega)) only [sI_u, u2n, u2s, r]
        by_cases e : hq.2.2.1 (aF z n i) 7 = hq.2.2.1 (aF z n i) 3
        · rw [if_pos e, if_neg one_ne, ev_gI (by simp only [sI_s]; exact sF), ev_pI (by simp only [sI_s]; exact sF)]
          refine ⟨_, rfl, ((p.set k11).set k10).set k9, ⟨?_, ?_, ?_⟩, fun f hf => ?_⟩
          · simp (disch := first | (refine Or.inr ?_; omega)) only [sI_u, u2n, u2s]
          · simp (disch := first | (refine Or.inr ?_; omega)) only [sI_u, u2n, u2s]
          · rw [if_pos e]
            simp (disch := first | (refine Or.inr ?_; omega)) only [sI_u, u2n, u2s, r]
          · simp only [sI_u, u2_ne _ _ (FF f hf)]
        · rw [if_neg e, if_pos rfl]
          refine ⟨_, rfl, (p.set k11).set k10, ⟨?_, ?_, ?_⟩, fun f hf => ?_⟩
          · simp (disch := first | (refine Or.inr ?_; omega)) only [sI_u, u2n, u2s]
          · simp (disch := first | (refine Or.inr ?_; omega)) only [sI_u, u2n, u2s]
          · rw [if_neg e]
            simp (disch := first | (refine Or.inr ?_; omega)) only [sI_u, u2n, u2s, r]
          · simp only [sI_u, u2_ne _ _ (FF f hf)]
      obtain ⟨hx, ex, px, kx, ox⟩ := e1
      rw [if_neg (nI_ge hi (by omega)), ev_rcv s0, cal_eq ha, ev_nulS, ev_rcv sF, cal_eq ex]
      unfold f_X7_keepFields_24
      rw [ev_bd, nI_1]
      refine ih (i + 1) hx (by omega) (by omega) px (fun f hf => ?_) (fun f hf => ?_)
      · by_cases e : f = i
        · subst e; exact kx
        · unfold KepF
          rw [ox f e]
          exact hd f (by omega)
      · rw [ox f (by omega)]
        exact hr f (by omega)
    · have e : i = nf := by omega
      subst e
      rw [if_pos (nI_le (Nat.le_refl i) (by omega))]
      exact ⟨h, rfl, p, hd⟩
end K7
