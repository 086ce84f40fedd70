/-! the tape: the class reads parts -/
def RF (k : Int) (h h' : xH) : Prop := kp [44, 46, 47, 48, 49] h h' ∧ (∀ i, i ≠ 2 → i ≠ 3 → h' 44 i = h 44 i) ∧ ∀ j, j ≠ k → h' 46 j = h 46 j ∧ h' 47 j = h 47 j ∧ h' 48 j = h 48 j ∧ h' 49 j = h 49 j
theorem RF.tr {k : Int} {h h1 h2 : xH} (a : RF k h h1) (b : RF k h1 h2) : RF k h h2 :=
  ⟨kp_tr a.1 b.1, fun i x y => by rw [b.2.1 i x y, a.2.1 i x y], fun j hj => by
    have x := a.2.2 j hj
    have y := b.2.2 j hj
    rw [y.1, y.2.1, y.2.2.1, y.2.2.2]; exact x⟩
theorem TF.RF {k : Int} {h h' : xH} (a : TF h h') : RF k h h' := ⟨kp_mono a.1 (by decide), a.2, fun j _ => by rw [a.1 46 (by decide), a.1 47 (by decide), a.1 48 (by decide), a.1 49 (by decide)]; exact ⟨rfl, rfl, rfl, rfl⟩⟩
theorem RF.x46 (k v : Int) (h : xH) : RF k h (xu h 46 k v) := ⟨kp_xu (by decide), fun i _ _ => xu_cn (by decide), fun j hj => ⟨xu_ne hj, xu_cn (by decide), xu_cn (by decide), xu_cn (by decide)⟩⟩
theorem RF.x47 (k v : Int) (h : xH) : RF k h (xu h 47 k v) := ⟨kp_xu (by decide), fun i _ _ => xu_cn (by decide), fun j hj => ⟨xu_cn (by decide), xu_ne hj, xu_cn (by decide), xu_cn (by decide)⟩⟩
theorem RF.x48 (k v : Int) (h : xH) : RF k h (xu h 48 k v) := ⟨kp_xu (by decide), fun i _ _ => xu_cn (by decide), fun j hj => ⟨xu_cn (by decide), xu_cn (by decide), xu_ne hj, xu_cn (by decide)⟩⟩
theorem RF.x49 (k v : Int) (h : xH) : RF k h (xu h 49 k v) := ⟨kp_xu (by decide), fun i _ _ => xu_cn (by decide), fun j hj => ⟨xu_cn (by decide), xu_cn (by decide), xu_cn (by decide), xu_ne hj⟩⟩
/-- the part that begins at p, as the class keeps it -/
def PV (h : xH) (T : Int → Int) (n p k : Int) : Prop := h 46 k = (pA T n p).2.2 ∧ h 47 k = (pB T n p).2.2 ∧ ((pA T n p).2.2 ≤ 1 → h 48 k = (pC T n p).2.2) ∧ ((pA T n p).2.2 = 0 → h 49 k = (pD T n p).2.2)
section TH2
variable {d : Nat} {T : Int → Int} {n p f : Int} {h : xH}
theorem C_readPart {k : Int} {Q : xH → Prop} (hd : 6 ≤ d) (hk : 0 ≤ k ∧ k < 20) (hT : TBy T n) (hs : TSt h T n p (-1)) (hp : 0 ≤ p ∧ p ≤ n) (hq : ∀ h', RF k h h' → TSt h' T n (pD T n p).1 (pD T n p).2.1 → ((pD T n p).2.1 < 0 → PV h' T n p k) → Q h') : cV wdC d mX5_readPart [.inr (.inr 44), .inl k] h Q := by
  have t1 := hT.1
  have a := rK_pf (T := T) hp
  have b := pB_pf (T := T) hp
  have c := pC_pf (T := T) hp
  have dd := pD_pf (T := T) hp
  have eA : rK T n p = pA T n p := rfl
  have eB : rN T n (pA T n p).1 (pA T n p).2.1 = pB T n p := rfl
  rw [eA] at a
  refine sg_X5_readPart_0 (by omega) (C_readKind (by omega) hT hs hp (fun h1 k1 s1 => ?_))
  rw [eA] at s1 ⊢
  have a1 := a.1
  have b1 := b.1
  have c1 := c.1
  have d1 := dd.1
  unfold pf at a1 b1 c1 d1
  rw [s1.2.2.1]
  refine ⟨by omega, inI_s (by omega) (by omega), fun z => C_readNumber (by omega) hT (s1.oth (by decide)) a.1 (fun h3 k3 s3 => ?_), fun z => ?_⟩
  · rw [eB] at s3 ⊢
    have e46 : h3 46 k = (pA T n p).2.2 := by rw [k3.1 46 (by decide), xu_eq]
    rw [e46]
    have k13 : RF k h h3 := (k1.RF.tr (RF.x46 k _ h1)).tr k3.RF
    -- pin: a second number and a stitch; turn: a second number; the others end
    refine ⟨by omega, by omega, inI_s (by omega) (by omega), fun z0 => C_readNumber (by omega) hT (s3.oth (by decide)) b.1 (fun h5 k5 s5 => ?_), fun z0 => ⟨by omega, inI_s (by omega) (by omega), fun z1 => ⟨by omega, inI_s (by omega) (by omega), fun _ => ?_, fun y => absurd y z0⟩, fun z1 => C_readNumber (by omega) hT (s3.oth (by decide)) b.1 (fun h5 k5 s5 => ?_)⟩⟩
    · have eC : rN T n (pB T n p).1 (pB T n p).2.1 = pC T n p := by unfold pC; rw [if_pos (by omega)]
      rw [eC] at s5 ⊢
      have e5 : h5 46 k = (pA T n p).2.2 := by rw [k5.1 46 (by decide), xu_cn (by decide), e46]
      rw [e5]
      refine ⟨by omega, by omega, inI_s (by omega) (by omega), fun y => absurd z0 y, fun _ => C_readStitch (by omega) hT (s5.oth (by decide)) c.1 (fun h7 k7 s7 => ⟨by omega, ?_⟩)⟩
      have eD : rS T n (pC T n p).1 (pC T n p).2.1 = pD T n p := by unfold pD; rw [if_pos z0]
      rw [eD] at s7 ⊢
      refine hq _ ((((k13.tr (RF.x47 k _ h3)).tr k5.RF).tr (RF.x48 k _ h5)).tr (k7.RF.tr (RF.x49 k _ h7))) (s7.oth (by decide)) (fun _ => ⟨?_, ?_, fun _ => ?_, fun _ => xu_eq⟩)
      · rw [xu_cn (by decide), k7.1 46 (by decide), xu_cn (by decide), e5]
      · rw [xu_cn (by decide), k7.1 47 (by decide), xu_cn (by decide), k5.1 47 (by decide), xu_eq]
      · rw [xu_cn (by decide), k7.1 48 (by decide), xu_eq]
    · have eC : pC T n p = ((pB T n p).1, (pB T n p).2.1, 0) := by unfold pC; rw [if_neg (by omega)]
      have eD : pD T n p = ((pC T n p).1, (pC T n p).2.1, 0) := by unfold pD; rw [if_neg z0]
      refine hq _ (k13.tr (RF.x47 k _ h3)) ?_ (fun _ => ⟨?_, xu_eq, fun y => by omega, fun y => absurd y z0⟩)
      · rw [eD, eC]; exact s3.oth (by decide)
      · rw [xu_cn (by decide), e46]
    · have eC : rN T n (pB T n p).1 (pB T n p).2.1 = pC T n p := by unfold pC; rw [if_pos (by omega)]
      have eD : pD T n p = ((pC T n p).1, (pC T n p).2.1, 0) := by unfold pD; rw [if_neg z0]
      rw [eC] at s5 ⊢
      have e5 : h5 46 k = (pA T n p).2.2 := by rw [k5.1 46 (by decide), xu_cn (by decide), e46]
      rw [e5]
      refine ⟨by omega, by omega, inI_s (by omega) (by omega), fun _ => ?_, fun y => absurd y z0⟩
      refine hq _ (((k13.tr (RF.x47 k _ h3)).tr k5.RF).tr (RF.x48 k _ h5)) ?_ (fun _ => ⟨?_, ?_, fun _ => xu_eq, fun y => absurd y z0⟩)
      · rw [eD]; exact s5.oth (by decide)
      · rw [xu_cn (by decide), e5]
      · rw [xu_cn (by decide), k5.1 47 (by decide), xu_eq]
  · have eB' : pB T n p = ((pA T n p).1, (pA T n p).2.1, 0) := by unfold pB; rw [rN_f z]
    have fB : (pB T n p).2.1 = (pA T n p).2.1 := by rw [eB']
    have pB1 : (pB T n p).1 = (pA T n p).1 := by rw [eB']
    have eC' : (pC T n p).1 = (pA T n p).1 ∧ (pC T n p).2.1 = (pA T n p).2.1 := by
      unfold pC
      split
      · rw [fB, pB1, rN_f z]; exact ⟨rfl, rfl⟩
      · exact ⟨pB1, fB⟩
    have eD' : (pD T n p).1 = (pA T n p).1 ∧ (pD T n p).2.1 = (pA T n p).2.1 := by
      unfold pD
      split
      · rw [eC'.1, eC'.2, rS_f z]; exact ⟨rfl, rfl⟩
      · exact eC'
    refine hq _ (k1.RF.tr (RF.x46 k _ h1)) ?_ (fun y => by omega)
    rw [eD'.1, eD'.2]
    exact s1.oth (by decide)
end TH2
/-- the fault of the whole -/
def rdF (T : Int → Int) (n : Int) (K : Nat) : Int := if 0 ≤ (pD T n (pl T n K)).2.1 then (pD T n (pl T n K)).2.1 else if (pD T n (pl T n K)).1 < n then (pD T n (pl T n K)).1 else -1
theorem C_read {d K : Nat} {T : Int → Int} {n : Int} {h : xH} {Q : xH → Prop} (hd : 7 ≤ d) (hT : TBy T n) (h1 : h 44 1 = n) (h4 : ∀ i, 0 ≤ i → i < n → h 45 i = T i) (hK : K ≤ 17) (hc : ∀ j : Nat, j < K → cont T n j) (hn : ¬ cont T n K)
    (hq : ∀ h', kp [44, 46, 47, 48, 49] h h' → h' 44 3 = rdF T n K → (rdF T n K < 0 → h' 44 4 = (K : Int) + 1 ∧ ∀ j : Nat, j ≤ K → PV h' T n (pl T n j) j) → Q h') : cV wdC d mX5_read [.inr (.inr 44)] h Q := by
  have t1 := hT.1
  have lp : ∀ (t k : Nat) (g : xH), k + t = K → kp [44, 46, 47, 48, 49] h g → TSt g T n (pl T n k) (-1) → (∀ j : Nat, j < k → PV g T n (pl T n j) j) → gV wdC d mX5_read 17 [some (.inr (.inr 44)), some (.inl (k : Int))] g Q := by
    intro t
    induction t with
    | zero =>
      intro k g hk kg sg pv
      have ek : k = K := by omega
      subst ek
      have pi := pl_in t1.1 k hc
      have dd := pD_pf (T := T) (n := n) (p := pl T n k) (by omega)
      have d1 := dd.1
      unfold pf at d1
      refine sg_X5_read_17 (by omega) ⟨inI_s (by omega) (by omega), fun z => by omega, fun _ => C_readPart (by omega) (by omega) hT sg (by omega) (fun g1 r1 s1 v1 => ?_)⟩
      have pv1 : (pD T n (pl T n k)).2.1 < 0 → ∀ j : Nat, j ≤ k → PV g1 T n (pl T n j) j := fun z j hj => by
        by_cases y : j = k
        · rw [y]; exact v1 z
        · have := pv j (by omega)
          have x := r1.2.2 j (by omega)
          unfold PV
          rw [x.1, x.2.1, x.2.2.1, x.2.2.2]
          exact this
      have kg1 : kp [44, 46, 47, 48, 49] h g1 := kp_tr kg r1.1
      rw [s1.2.2.1, s1.1, s1.2.1]
      refine ⟨inI_s (by omega) (by omega), fun z => ?_, fun z => ⟨⟨inI_s (by omega) (by omega), inI_s (by omega) (by omega)⟩, fun y => ?_, fun y => ?_⟩⟩
      · have e : rdF T n k = (pD T n (pl T n k)).2.1 := by unfold rdF; rw [if_pos z]
        rw [e] at hq
        exact hq _ (kp_tr kg1 (kp_xu (by decide))) (by rw [xu_ne (by decide)]; exact s1.2.2.1) (fun w => by omega)
      · have ne : ¬ T (pD T n (pl T n k)).1 = 59 := fun w => hn ⟨z, y, w⟩
        have e : rdF T n k = (pD T n (pl T n k)).1 := by unfold rdF; rw [if_neg (by omega), if_pos y]
        rw [e] at hq
        have s2 : TSt (xu g1 44 4 ((k : Int) + 1)) T n (pD T n (pl T n k)).1 (pD T n (pl T n k)).2.1 := ⟨by rw [xu_ne (by decide)]; exact s1.1, by rw [xu_ne (by decide)]; exact s1.2.1, by rw [xu_ne (by decide)]; exact s1.2.2.1, by rw [xu_oth (by decide)]; exact s1.2.2.2⟩
        refine C_expect (by omega) hT s2 dd.1 (fun g2 k2 s3 => ?_)
        have ex : rX T n 59 (pD T n (pl T n k)).1 (pD T n (pl T n k)).2.1 = ((pD T n (pl T n k)).1, (pD T n (pl T n k)).1) := by unfold rX; rw [if_neg (by omega), if_neg (fun w => ne w.2)]
        rw [ex] at s3
        have e3 : g2 44 3 = (pD T n (pl T n k)).1 := s3.2.2.1
        rw [e3]
        exact ⟨inI_s (by omega) (by omega), fun w => by omega, fun _ => hq g2 (kp_tr (kp_tr kg1 (kp_xu (by decide))) (kp_mono k2.1 (by decide))) e3 (fun w => by omega)⟩
      · have e : rdF T n k = -1 := by unfold rdF; rw [if_neg (by omega), if_neg (by omega)]
        have f1 := (dd.2.1 z).2.1
        rw [e] at hq
        refine hq _ (kp_tr kg1 (kp_xu (by decide))) (by rw [xu_ne (by decide), s1.2.2.1]; exact f1) (fun _ => ⟨xu_eq, fun j hj => ?_⟩)
        have := pv1 z j hj
        unfold PV
        rw [xu_cn (by decide), xu_cn (by decide), xu_cn (by decide), xu_cn (by decide)]
        exact this
    | succ t ih =>
      intro k g hk kg sg pv
      have pi := pl_in t1.1 k (fun j hj => hc j (by omega))
      have dd := pD_pf (T := T) (n := n) (p := pl T n k) (by omega)
      have d1 := dd.1
      unfold pf at d1
      obtain ⟨c1, c2, c3⟩ := hc k (by omega)
      refine sg_X5_read_17 (by omega) ⟨inI_s (by omega) (by omega), fun z => by omega, fun _ => C_readPart (by omega) (by omega) hT sg (by omega) (fun g1 r1 s1 v1 => ?_)⟩
      have pv1 : ∀ j : Nat, j < k + 1 → PV g1 T n (pl T n j) j := fun j hj => by
        by_cases y : j = k
        · rw [y]; exact v1 c1
        · have := pv j (by omega)
          have x := r1.2.2 j (by omega)
          unfold PV
          rw [x.1, x.2.1, x.2.2.1, x.2.2.2]
          exact this
      have kg1 : kp [44, 46, 47, 48, 49] h g1 := kp_tr kg r1.1
      rw [s1.2.2.1, s1.1, s1.2.1]
      refine ⟨inI_s (by omega) (by omega), fun z => by omega, fun z => ⟨⟨inI_s (by omega) (by omega), inI_s (by omega) (by omega)⟩, fun y => ?_, fun y => by omega⟩⟩
      have s2 : TSt (xu g1 44 4 ((k : Int) + 1)) T n (pD T n (pl T n k)).1 (pD T n (pl T n k)).2.1 := ⟨by rw [xu_ne (by decide)]; exact s1.1, by rw [xu_ne (by decide)]; exact s1.2.1, by rw [xu_ne (by decide)]; exact s1.2.2.1, by rw [xu_oth (by decide)]; exact s1.2.2.2⟩
      refine C_expect (by omega) hT s2 dd.1 (fun g2 k2 s3 => ?_)
      have f1 := (dd.2.1 z).2.1
      have ex : rX T n 59 (pD T n (pl T n k)).1 (pD T n (pl T n k)).2.1 = ((pD T n (pl T n k)).1 + 1, -1) := by unfold rX; rw [if_neg (by omega), if_pos ⟨y, c3⟩, f1]
      rw [ex] at s3
      have e3 : g2 44 3 = -1 := s3.2.2.1
      rw [e3]
      refine ⟨inI_s (by omega) (by omega), fun _ => ?_, fun w => by omega⟩
      rw [show (k : Int) + 1 = ((k + 1 : Nat) : Int) by omega]
      refine ih (k + 1) g2 (by omega) (kp_tr (kp_tr kg1 (kp_xu (by decide))) (kp_mono k2.1 (by decide))) s3 (fun j hj => ?_)
      have := pv1 j hj
      unfold PV
      rw [k2.1 46 (by decide), k2.1 47 (by decide), k2.1 48 (by decide), k2.1 49 (by decide), xu_cn (by decide), xu_cn (by decide), xu_cn (by decide), xu_cn (by decide)]
      exact this
  refine sg_X5_read_0 (lp K 0 _ (by omega) (kp_tr (kp_tr (kp_xu (by decide)) (kp_xu (by decide))) (kp_xu (by decide))) ⟨?_, ?_, ?_, fun i a b => ?_⟩ (fun j hj => by omega))
  · simp (disch := omega) only [xu_ne]; exact h1
  · simp (disch := omega) only [xu_ne, xu_eq]; rfl
  · simp (disch := omega) only [xu_ne, xu_eq]
  · rw [xu_cn (by decide), xu_cn (by decide), xu_cn (by decide)]; exact h4 i a b
