/-! the tape: the reference reads parts -/
def RM (k : Int) (m m' : xH) : Prop := kp [0, 16] m m' ∧ (∀ i, i ≠ 24 → i ≠ 25 → m' 0 i = m 0 i) ∧ ∀ j, j < 4 * k → m' 16 j = m 16 j
theorem RM.tr {k : Int} {h h1 h2 : xH} (a : RM k h h1) (b : RM k h1 h2) : RM k h h2 := ⟨kp_tr a.1 b.1, fun i x y => by rw [b.2.1 i x y, a.2.1 i x y], fun j hj => by rw [b.2.2 j hj, a.2.2 j hj]⟩
theorem MF.RM {k : Int} {h h' : xH} (a : MF h h') : RM k h h' := ⟨kp_mono a.1 (by decide), a.2, fun j _ => by rw [a.1 16 (by decide)]⟩
theorem RM.x16 {k : Int} (i v : Int) (h : xH) (hi : 4 * k ≤ i) : RM k h (xu h 16 i v) := ⟨kp_xu (by decide), fun j _ _ => xu_cn (by decide), fun j hj => xu_ne (by omega)⟩
/-- the part that begins at p, as the reference keeps it -/
def PW (m : xH) (T : Int → Int) (n p k : Int) : Prop := m 16 (4 * k) = (pA T n p).2.2 ∧ m 16 (4 * k + 1) = (pB T n p).2.2 ∧ ((pA T n p).2.2 ≤ 1 → m 16 (4 * k + 2) = (pC T n p).2.2) ∧ ((pA T n p).2.2 = 0 → m 16 (4 * k + 3) = (pD T n p).2.2)
theorem pD_fC {T : Int → Int} {n p : Int} (z : 0 ≤ (pC T n p).2.1) : (pD T n p).1 = (pC T n p).1 ∧ (pD T n p).2.1 = (pC T n p).2.1 := by
  unfold pD
  split
  · rw [rS_f z]; exact ⟨rfl, rfl⟩
  · exact ⟨rfl, rfl⟩
theorem pC_fB {T : Int → Int} {n p : Int} (z : 0 ≤ (pB T n p).2.1) : (pC T n p).1 = (pB T n p).1 ∧ (pC T n p).2.1 = (pB T n p).2.1 := by
  unfold pC
  split
  · rw [rN_f z]; exact ⟨rfl, rfl⟩
  · exact ⟨rfl, rfl⟩
theorem pB_fA {T : Int → Int} {n p : Int} (z : 0 ≤ (pA T n p).2.1) : (pB T n p).1 = (pA T n p).1 ∧ (pB T n p).2.1 = (pA T n p).2.1 := by
  unfold pB
  rw [rN_f z]; exact ⟨rfl, rfl⟩
section TN
variable {d : Nat} {T : Int → Int} {n p f : Int} {m : xH}
theorem M_reads {k : Int} {Q : xH → Prop} (hd : 3 ≤ d) (hk : 0 ≤ k ∧ k < 20) (hT : TBy T n) (hs : MSt m T n p (-1)) (hp : 0 ≤ p ∧ p ≤ n) (hq : ∀ m', RM k m m' → MSt m' T n (pD T n p).1 (pD T n p).2.1 → ((pD T n p).2.1 < 0 → PW m' T n p k) → Q m') : cV wdM d mX8_reads [.inr (.inr 0), .inl (4 * k)] m Q := by
  have t1 := hT.1
  have skb := sk_b (T := T) hp.2
  have a := rK_pf (T := T) hp
  have b := pB_pf (T := T) hp
  have c := pC_pf (T := T) hp
  have dd := pD_pf (T := T) hp
  have eK : rK T n p = pA T n p := rfl
  rw [eK] at a
  have b1 := b.1
  have c1 := c.1
  have d1 := dd.1
  unfold pf at b1 c1 d1
  refine sg_X8_reads_0 (by omega) (M_word (a := 0) (b := 3) (c := 4) (by omega) (by omega) (by omega) hT hs hp (fun m1 k1 s1 hw => ?_) (fun m1 k1 s1 hw => ?_))
  · have eA : pA T n p = (sk T n p, -1, fw T p (sk T n p) 0 4) := by unfold pA rK; rw [if_neg (by omega)]
    have e0 : ((0 : Nat) : Int) + fw T p (sk T n p) 0 4 = (pA T n p).2.2 := by
      rw [eA]
      show ((0 : Nat) : Int) + fw T p (sk T n p) 0 4 = fw T p (sk T n p) 0 4
      omega
    have eB : rN T n (sk T n p) (-1) = pB T n p := by unfold pB; rw [eA]
    rw [e0, s1.2.2.1]
    generalize hkd : (pA T n p).2.2 = kd at *
    refine ⟨by omega, inI_s (by omega) (by omega), fun z => by omega, fun _ => M_figures (by omega) hT (s1.oth (by decide)) (by omega) (fun m2 k2 s2 => ?_)⟩
    rw [eB] at s2 ⊢
    rw [s2.2.2.1]
    have k12 : RM k m m2 := (k1.RM.tr (RM.x16 (4 * k) kd m1 (by omega))).tr k2.RM
    have f0 : m2 16 (4 * k) = kd := by rw [k2.1 16 (by decide), xu_eq]
    refine ⟨by omega, inI_s (by omega) (by omega), fun z => ⟨inI_s (by omega) (by omega), fun y => ?_, fun y => by omega⟩, fun z => ⟨inI_s (by omega) (by omega), fun y => ?_, fun y => ?_⟩⟩
    · have eC : pC T n p = ((pB T n p).1, (pB T n p).2.1, 0) := by unfold pC; rw [if_neg (by omega)]
      have eD : pD T n p = ((pC T n p).1, (pC T n p).2.1, 0) := by unfold pD; rw [if_neg (by omega)]
      refine hq _ (k12.tr (RM.x16 (4 * k + 1) _ m2 (by omega))) ?_ (fun _ => ⟨?_, xu_eq, fun x => by omega, fun x => by omega⟩)
      · rw [eD, eC]; exact s2.oth (by decide)
      · rw [xu_ne (by omega), f0, hkd]
    · have eC := pC_fB y
      have eD := pD_fC (T := T) (n := n) (p := p) (by omega)
      have go : Q (xu m2 16 (4 * k + 1) (pB T n p).2.2) := by
        refine hq _ (k12.tr (RM.x16 (4 * k + 1) _ m2 (by omega))) ?_ (fun x => by omega)
        rw [eD.1, eD.2, eC.1, eC.2]; exact s2.oth (by decide)
      refine ⟨inI_s (by omega) (by omega), fun _ => go, fun _ => ⟨?_, fun _ => go, fun x => ?_⟩⟩
      · exact inI_s (by omega) (by omega)
      · omega
    · have fB := (b.2.2.1 y).2.1
      rw [fB] at s2
      have eC : rN T n (pB T n p).1 (-1) = pC T n p := by unfold pC; rw [hkd, if_pos (by omega), fB]
      refine M_figures (by omega) hT (s2.oth (by decide)) (by omega) (fun m3 k3 s3 => ?_)
      rw [eC] at s3 ⊢
      rw [s3.2.2.1]
      have k13 : RM k m m3 := (k12.tr (RM.x16 (4 * k + 1) _ m2 (by omega))).tr k3.RM
      have g0 : m3 16 (4 * k) = kd := by rw [k3.1 16 (by decide), xu_ne (by omega), f0]
      have g1 : m3 16 (4 * k + 1) = (pB T n p).2.2 := by rw [k3.1 16 (by decide), xu_eq]
      refine ⟨by omega, inI_s (by omega) (by omega), fun x => ?_, fun x => ⟨inI_s (by omega) (by omega), fun w => ?_, fun w => ?_⟩⟩
      · have eD : pD T n p = ((pC T n p).1, (pC T n p).2.1, 0) := by unfold pD; rw [if_neg (by omega)]
        refine hq _ (k13.tr (RM.x16 (4 * k + 2) _ m3 (by omega))) ?_ (fun _ => ⟨?_, ?_, fun _ => xu_eq, fun w => by omega⟩)
        · rw [eD]; exact s3.oth (by decide)
        · rw [xu_ne (by omega), g0, hkd]
        · rw [xu_ne (by omega), g1]
      · have eD := pD_fC w
        refine hq _ (k13.tr (RM.x16 (4 * k + 2) _ m3 (by omega))) ?_ (fun u => by omega)
        rw [eD.1, eD.2]; exact s3.oth (by decide)
      · have fC := (c.2.2.1 w).2.1
        rw [fC] at s3
        have k14 : RM k m (xu m3 16 (4 * k + 2) (pC T n p).2.2) := k13.tr (RM.x16 (4 * k + 2) _ m3 (by omega))
        have eD : pD T n p = rS T n (pC T n p).1 (-1) := by unfold pD; rw [if_pos (by omega), fC]
        have rx := rX_pf (T := T) (n := n) (c := 32) (p := (pC T n p).1) (f := -1) ⟨c1.1, by omega, by omega⟩
        refine M_blank (by omega) hT (s3.oth (by decide)) (by omega) (fun m4 k4 s4 => ?_)
        unfold rS at eD
        generalize rX T n 32 (pC T n p).1 (-1) = r at *
        obtain ⟨x1, x2, x3⟩ := rx
        unfold pf at x1
        have k15 : RM k m m4 := k14.tr k4.RM
        have h0 : m4 16 (4 * k) = kd := by rw [k4.1 16 (by decide), xu_ne (by omega), g0]
        have h1 : m4 16 (4 * k + 1) = (pB T n p).2.2 := by rw [k4.1 16 (by decide), xu_ne (by omega), g1]
        have h2 : m4 16 (4 * k + 2) = (pC T n p).2.2 := by rw [k4.1 16 (by decide), xu_eq]
        by_cases u : 0 ≤ r.2
        · rw [if_pos u] at eD
          refine sg_X8_word_0 ?_
          rw [s4.2.2.1]
          refine ⟨inI_s (by omega) (by omega), fun v => by omega, fun _ => ⟨by omega, hq _ (k15.tr (RM.x16 (4 * k + 3) _ m4 (by omega))) ?_ (fun v => ?_)⟩⟩
          · rw [eD]; exact s4.oth (by decide)
          · rw [eD] at v
            have v : r.2 < 0 := v
            omega
        · have r2 := (x3 (by omega)).2.1
          rw [if_neg u] at eD
          rw [r2] at s4
          refine M_word (a := 4) (b := 8) (c := 5) (by omega) (by omega) (by omega) hT s4 (by omega) (fun m5 k5 s5 hw5 => ⟨by omega, ?_⟩) (fun m5 k5 s5 hw5 => ⟨by omega, ?_⟩)
          · rw [if_neg (by omega), r2] at eD
            rw [show ((4 : Nat) : Int) + fw T r.1 (sk T n r.1) 4 5 - 4 = fw T r.1 (sk T n r.1) 4 5 by omega]
            refine hq _ ((k15.tr k5.RM).tr (RM.x16 (4 * k + 3) _ m5 (by omega))) ?_ (fun _ => ⟨?_, ?_, fun _ => ?_, fun _ => ?_⟩)
            · rw [eD]; exact s5.oth (by decide)
            · rw [xu_ne (by omega), k5.1 16 (by decide), h0, hkd]
            · rw [xu_ne (by omega), k5.1 16 (by decide), h1]
            · rw [xu_ne (by omega), k5.1 16 (by decide), h2]
            · rw [xu_eq, eD]
          · rw [if_pos (by omega)] at eD
            refine hq _ ((k15.tr k5.RM).tr (RM.x16 (4 * k + 3) _ m5 (by omega))) ?_ (fun v => ?_)
            · rw [eD]; exact s5.oth (by decide)
            · rw [eD] at v
              have v : r.1 < 0 := v
              omega
  · have eA : pA T n p = (sk T n p, p, 3) := by unfold pA rK; rw [if_pos (by omega)]
    have fA : (pA T n p).2.1 = p := by rw [eA]
    have pA1 : (pA T n p).1 = sk T n p := by rw [eA]
    have eB := pB_fA (T := T) (n := n) (p := p) (by omega)
    have eC := pC_fB (T := T) (n := n) (p := p) (by omega)
    have eD := pD_fC (T := T) (n := n) (p := p) (by omega)
    rw [s1.2.2.1]
    refine ⟨by omega, inI_s (by omega) (by omega), fun _ => ⟨by omega, inI_s (by omega) (by omega), fun z => by omega, fun _ => ⟨inI_s (by omega) (by omega), fun _ => ⟨inI_s (by omega) (by omega), fun y => absurd rfl y, fun _ => ⟨inI_s (by omega) (by omega), fun _ => ?_, fun y => by omega⟩⟩, fun y => by omega⟩⟩, fun z => by omega⟩
    refine hq _ ((k1.RM.tr (RM.x16 (4 * k) _ m1 (by omega))).tr (RM.x16 (4 * k + 1) _ _ (by omega))) ?_ (fun x => by omega)
    rw [eD.1, eD.2, eC.1, eC.2, eB.1, eB.2, fA, pA1]
    exact (s1.oth (by decide)).oth (by decide)
end TN
/-- a copy of s in was -/
theorem M_keep {d : Nat} {m : xH} {Q : xH → Prop} (hq : ∀ m', kp [3] m m' → (∀ i, 0 ≤ i → i < 1705 → m' 3 i = m 1 i) → Q m') : cV wdM d mX8_copies [.inr (.inr 1), .inr (.inr 3)] m Q := by
  have lp : ∀ t : Int, t ≤ 1705 → 0 ≤ t → ∀ h1 : xH, kp [3] m h1 → (∀ i, 0 ≤ i → i < t → h1 3 i = m 1 i) → gV wdM d mX8_copies 2 [some (.inr (.inr 1)), some (.inr (.inr 3)), some (.inl t)] h1 Q := by
    refine dn ?_ ?_
    · intro _ h1 k hi
      exact sg_X8_copies_1_3_2 ⟨inI_s (by omega) (by omega), fun _ => hq h1 k hi, fun z => absurd z (by omega)⟩
    · intro t ht ih t0 h1 k hi
      refine sg_X8_copies_1_3_2 ⟨inI_s (by omega) (by omega), fun z => absurd z (by omega), fun _ => ⟨by omega, by omega, ih (by omega) _ (kp_tr k (kp_xu (by decide))) (fun i a b => ?_)⟩⟩
      by_cases z : i = t
      · rw [z, xu_eq, k 1 (by decide)]
      · rw [xu_ne z]; exact hi i a (by omega)
  exact sg_X8_copies_1_3_0 (lp 0 (by omega) (by omega) m (kp_rf _ _) (fun i a b => by omega))
theorem M_back {d : Nat} {m : xH} {Q : xH → Prop} (hq : ∀ m', kp [1] m m' → (∀ i, 0 ≤ i → i < 1705 → m' 1 i = m 3 i) → Q m') : cV wdM d mX8_copies [.inr (.inr 3), .inr (.inr 1)] m Q := by
  have lp : ∀ t : Int, t ≤ 1705 → 0 ≤ t → ∀ h1 : xH, kp [1] m h1 → (∀ i, 0 ≤ i → i < t → h1 1 i = m 3 i) → gV wdM d mX8_copies 2 [some (.inr (.inr 3)), some (.inr (.inr 1)), some (.inl t)] h1 Q := by
    refine dn ?_ ?_
    · intro _ h1 k hi
      exact sg_X8_copies_3_1_2 ⟨inI_s (by omega) (by omega), fun _ => hq h1 k hi, fun z => absurd z (by omega)⟩
    · intro t ht ih t0 h1 k hi
      refine sg_X8_copies_3_1_2 ⟨inI_s (by omega) (by omega), fun z => absurd z (by omega), fun _ => ⟨by omega, by omega, ih (by omega) _ (kp_tr k (kp_xu (by decide))) (fun i a b => ?_)⟩⟩
      by_cases z : i = t
      · rw [z, xu_eq, k 3 (by decide)]
      · rw [xu_ne z]; exact hi i a (by omega)
  exact sg_X8_copies_3_1_0 (lp 0 (by omega) (by omega) m (kp_rf _ _) (fun i a b => by omega))
theorem M_tape {d K : Nat} {T : Int → Int} {n : Int} {m : xH} {Q : Int → xH → Prop} (hd : 5 ≤ d) (hT : TBy T n) (h1 : m 0 22 = n) (h4 : ∀ i, 0 ≤ i → i < n → m 14 i = T i) (h5 : ∀ i : Nat, i < 49 → m 20 i = wordsL.getD i 0) (hK : K ≤ 17) (hc : ∀ j : Nat, j < K → cont T n j) (hn : ¬ cont T n K)
    (hq1 : 0 ≤ rdF T n K → ∀ m', kp [0, 16] m m' → m' 0 22 = 0 → (∀ i, i ≠ 22 → i ≠ 24 → i ≠ 25 → m' 0 i = m 0 i) → Q (-100 - rdF T n K) m')
    (hq2 : rdF T n K < 0 → ∀ m', kp [0, 3, 16] m m' → m' 0 22 = 0 → (∀ i, i ≠ 22 → i ≠ 24 → i ≠ 25 → m' 0 i = m 0 i) → (∀ i, 0 ≤ i → i < 1705 → m' 3 i = m 1 i) → (∀ j : Nat, j ≤ K → PW m' T n (pl T n j) j) → gI wdM d mX8_pricking 139 [some (.inr (.inr 0)), some (.inl ((K : Int) + 1)), none, some (.inl 0)] m' Q) : cI wdM d mX8_pricking [.inr (.inr 0)] m Q := by
  have t1 := hT.1
  -- no part follows
  have fin : ∀ (g : xH) (pv : (pD T n (pl T n K)).2.1 < 0 → ∀ j : Nat, j ≤ K → PW g T n (pl T n j) j), kp [0, 16] m g → (∀ i, i ≠ 22 → i ≠ 24 → i ≠ 25 → g 0 i = m 0 i) → MSt g T n (pD T n (pl T n K)).1 (pD T n (pl T n K)).2.1 → gI wdM d mX8_pricking 14 [some (.inr (.inr 0)), some (.inl ((K : Int) + 1)), some (.inl 0), none] g Q := by
    intro g pv kg eg sg
    have pi := pl_in t1.1 K hc
    have dd := pD_pf (T := T) (n := n) (p := pl T n K) (by omega)
    have d1 := dd.1
    unfold pf at d1
    have good : rdF T n K < 0 → (pD T n (pl T n K)).2.1 < 0 → ∀ g2 : xH, g2 = xu g 0 22 0 → cV wdM (d - 1) mX8_copies [.inr (.inr 1), .inr (.inr 3)] g2 (fun h1 => gI wdM d mX8_pricking 139 [some (.inr (.inr 0)), some (.inl ((K : Int) + 1)), none, some (.inl 0)] h1 Q) := by
      intro z z2 g2 e2
      subst e2
      refine M_keep (fun m' k' i' => hq2 z m' (kp_tr (kp_tr (kp_mono kg (by decide)) (kp_xu (by decide))) (kp_mono k' (by decide))) (by rw [k' 0 (by decide), xu_eq]) (fun i a b c => by rw [k' 0 (by decide), xu_ne a]; exact eg i a b c) (fun i a b => by rw [i' i a b, xu_cn (by decide), kg 1 (by decide)]) (fun j hj => ?_))
      have := pv z2 j hj
      unfold PW
      rw [k' 16 (by decide), xu_cn (by decide), xu_cn (by decide), xu_cn (by decide), xu_cn (by decide)]
      exact this
    refine sg_X8_pricking_14 (by omega) ⟨inI_s (by omega) (by omega), fun _ => ?_, fun z => absurd rfl z⟩
    rw [sg.1, sg.2.1]
    refine ⟨⟨inI_s (by omega) (by omega), inI_s (by omega) (by omega)⟩, fun z => ?_, fun z => ?_⟩
    · rw [sg.2.2.1]
      refine ⟨inI_s (by omega) (by omega), fun y => ?_, fun y => ?_⟩
      · have e : rdF T n K = -1 := by unfold rdF; rw [if_neg (by omega), if_neg (by omega)]
        exact good (by omega) y _ rfl
      · have e : rdF T n K = (pD T n (pl T n K)).2.1 := by unfold rdF; rw [if_pos y]
        rw [← e]
        exact hq1 (by omega) _ (kp_tr kg (kp_xu (by decide))) xu_eq (fun i a b c => by rw [xu_ne a]; exact eg i a b c)
    · refine M_fails (by rw [sg.2.2.1]; exact inI_s (by omega) (by omega)) (fun y => ?_) (fun y => ?_)
      · rw [sg.2.2.1] at y
        rw [sg.2.2.1]
        have e : rdF T n K = (pD T n (pl T n K)).2.1 := by unfold rdF; rw [if_pos y]
        refine ⟨inI_s (by omega) (by omega), fun x => by omega, fun _ => ?_⟩
        rw [← e]
        exact hq1 (by omega) _ (kp_tr kg (kp_xu (by decide))) xu_eq (fun i a b c => by rw [xu_ne a]; exact eg i a b c)
      · rw [sg.2.2.1] at y
        have e : rdF T n K = (pD T n (pl T n K)).1 := by unfold rdF; rw [if_neg (by omega), if_pos z]
        rw [xu_eq]
        refine ⟨inI_s (by omega) (by omega), fun x => by omega, fun _ => ?_⟩
        rw [← e]
        exact hq1 (by omega) _ (kp_tr (kp_tr kg (kp_xu (by decide))) (kp_xu (by decide))) xu_eq (fun i a b c => by rw [xu_ne a, xu_ne c]; exact eg i a b c)
  have lp : ∀ (t k : Nat) (g : xH), k + t = K → kp [0, 16] m g → (∀ i, i ≠ 22 → i ≠ 24 → i ≠ 25 → g 0 i = m 0 i) → MSt g T n (pl T n k) (-1) → (∀ j : Nat, j < k → PW g T n (pl T n j) j) → gI wdM d mX8_pricking 14 [some (.inr (.inr 0)), some (.inl (k : Int)), some (.inl 1), none] g Q := by
    intro t
    induction t with
    | zero =>
      intro k g hk kg eg sg pv
      have ek : k = K := by omega
      subst ek
      have pi := pl_in t1.1 k hc
      have dd := pD_pf (T := T) (n := n) (p := pl T n k) (by omega)
      have d1 := dd.1
      unfold pf at d1
      refine sg_X8_pricking_14 (by omega) ⟨inI_s (by omega) (by omega), fun z => by omega, fun _ => M_reads (by omega) (by omega) hT sg (by omega) (fun g1 r1 s1 v1 => ?_)⟩
      have pv1 : (pD T n (pl T n k)).2.1 < 0 → ∀ j : Nat, j ≤ k → PW (xu g1 0 24 ((pD T n (pl T n k)).1 + 0)) T n (pl T n j) j := fun z j hj => by
        have : PW g1 T n (pl T n j) j := by
          by_cases y : j = k
          · rw [y]; exact v1 z
          · have := pv j (by omega)
            unfold PW
            rw [r1.2.2 _ (by omega), r1.2.2 _ (by omega), r1.2.2 _ (by omega), r1.2.2 _ (by omega)]
            exact this
        unfold PW
        rw [xu_cn (by decide), xu_cn (by decide), xu_cn (by decide), xu_cn (by decide)]
        exact this
      have kg1 : kp [0, 16] m g1 := kp_tr kg r1.1
      have go := fin (xu g1 0 24 ((pD T n (pl T n k)).1 + 0)) pv1 (kp_tr kg1 (kp_xu (by decide))) (fun i a b c => by rw [xu_ne b, r1.2.1 i b c]; exact eg i a b c) (s1.upd (MF.x4 g1 _) (by rw [xu_eq]; omega) (by rw [xu_ne (by decide)]; exact s1.2.2.1))
      rw [s1.2.2.1, s1.1, s1.2.1]
      refine ⟨inI_s (by omega) (by omega), fun _ => go, fun z => ⟨⟨inI_s (by omega) (by omega), inI_s (by omega) (by omega)⟩, fun _ => go, fun y => ?_⟩⟩
      have tb := hT.2 _ d1.1.1 y
      rw [s1.2.2.2.1 _ d1.1.1 y]
      exact ⟨by omega, inI_s (by omega) (by omega), fun _ => go, fun x => absurd ⟨z, y, x⟩ hn⟩
    | succ t ih =>
      intro k g hk kg eg sg pv
      have pi := pl_in t1.1 k (fun j hj => hc j (by omega))
      have dd := pD_pf (T := T) (n := n) (p := pl T n k) (by omega)
      have d1 := dd.1
      unfold pf at d1
      obtain ⟨c1, c2, c3⟩ := hc k (by omega)
      refine sg_X8_pricking_14 (by omega) ⟨inI_s (by omega) (by omega), fun z => by omega, fun _ => M_reads (by omega) (by omega) hT sg (by omega) (fun g1 r1 s1 v1 => ?_)⟩
      have pv1 : ∀ j : Nat, j < k + 1 → PW (xu g1 0 24 ((pD T n (pl T n k)).1 + 1)) T n (pl T n j) j := fun j hj => by
        have : PW g1 T n (pl T n j) j := by
          by_cases y : j = k
          · rw [y]; exact v1 c1
          · have := pv j (by omega)
            unfold PW
            rw [r1.2.2 _ (by omega), r1.2.2 _ (by omega), r1.2.2 _ (by omega), r1.2.2 _ (by omega)]
            exact this
        unfold PW
        rw [xu_cn (by decide), xu_cn (by decide), xu_cn (by decide), xu_cn (by decide)]
        exact this
      have kg1 : kp [0, 16] m g1 := kp_tr kg r1.1
      have f1 := (dd.2.1 c1).2.1
      have tb := hT.2 _ d1.1.1 c2
      rw [s1.2.2.1, s1.1, s1.2.1]
      refine ⟨inI_s (by omega) (by omega), fun z => by omega, fun z => ⟨⟨inI_s (by omega) (by omega), inI_s (by omega) (by omega)⟩, fun y => by omega, fun y => ?_⟩⟩
      rw [s1.2.2.2.1 _ d1.1.1 y]
      refine ⟨by omega, inI_s (by omega) (by omega), fun x => absurd c3 x, fun _ => ?_⟩
      rw [show (k : Int) + 1 = ((k + 1 : Nat) : Int) by omega]
      exact ih (k + 1) _ (by omega) (kp_tr kg1 (kp_xu (by decide))) (fun i a b c => by rw [xu_ne b, r1.2.1 i b c]; exact eg i a b c) (s1.upd (MF.x4 g1 _) xu_eq (by rw [xu_ne (by decide), s1.2.2.1]; exact f1)) pv1
  refine sg_X8_pricking_0 (lp K 0 _ (by omega) (kp_tr (kp_xu (by decide)) (kp_xu (by decide))) (fun i a b c => by rw [xu_ne c, xu_ne b]) ⟨?_, ?_, ?_, fun i a b => ?_, fun i a => ?_⟩ (fun j hj => by omega))
  · rw [xu_ne (by decide), xu_ne (by decide)]; exact h1
  · rw [xu_ne (by decide), xu_eq]; rfl
  · rw [xu_eq]
  · rw [xu_cn (by decide), xu_cn (by decide)]; exact h4 i a b
  · rw [xu_cn (by decide), xu_cn (by decide)]; exact h5 i a
