theorem C_firstOut {d : Nat} {X Y : Int → Int} {H O S i n : Nat} {h : xH} {Q : Int → xH → Prop} (hd : 3 ≤ d) (hJ : JC h X Y H O) (hT : TB h X Y H O 0) (hn : H - i = n + 1) (hS : S < 2 ^ O) (hp : pcs S 12 ≤ i)
    (hq : ∀ o : Nat, o < O → fm X Y O (n + 1) i S = pre1 i o (dfj X Y i o) (fm X Y O n (i + 1) (S ||| 2 ^ o)) → Q o h) (hz : fm X Y O (n + 1) i S = pre0 i (fm X Y O n (i + 1) S) → Q (-1) h) : cI wdC d mX1_firstOut [.inr (.inr 39), .inl (i : Int), .inl (S : Int)] h Q := by
  have h10 := hJ.2.2.2.2.1
  have j2 := hJ.2.1
  have hS' : S < 2 ^ 10 := Nat.lt_of_lt_of_le hS (two_pow_le (by omega))
  have hT1 : TB h X Y H O (i + 1) := fun i' a b S' c d => hT i' (by omega) b S' c d
  have wb : ∀ n' : Nat, n' ≤ 10 → ∀ (i' : Int) (S' : Nat), -1000 ≤ wv (fm X Y O n' i' S') ∧ wv (fm X Y O n' i' S') ≤ 20000 := fun n' hn' i' S' => by
    have := fm_b (X := X) (Y := Y) (O := O) n' i' S'
    unfold cb at this; unfold wv; omega
  -- one step
  have step : ∀ k : Nat, k < O → (okj X Y i S k = true → wv (pre1 i k (dfj X Y i k) (fm X Y O n (i + 1) (S ||| 2 ^ k))) = wv (fm X Y O (n + 1) i S) → Q k h) → ((okj X Y i S k = true → wv (pre1 i k (dfj X Y i k) (fm X Y O n (i + 1) (S ||| 2 ^ k))) ≠ wv (fm X Y O (n + 1) i S)) → gI wdC d mX1_firstOut 2 [some (.inr (.inr 39)), some (.inl (i : Int)), some (.inl (S : Int)), some (.inl ((k : Int) + 1))] h Q) → gI wdC d mX1_firstOut 2 [some (.inr (.inr 39)), some (.inl (i : Int)), some (.inl (S : Int)), some (.inl (k : Int))] h Q := by
    intro k hk y1 y2
    refine sg_X1_firstOut_2 (by omega) ?_
    rw [j2]
    refine ⟨⟨inI_s (by omega) (by omega), inI_s (by omega) (by omega)⟩, fun z => absurd z (by omega), fun _ => C_mayJoin (by omega) hJ (by omega) hk hS (fun b => C_worthOf (by omega) hJ hT1 hn hk hS hp (C_bestFrom hJ (by omega) hS ?_)) (fun b => y2 (fun z => by rw [b] at z; cases z))⟩
    rw [hT i (by omega) (by omega) S hS hp, hn]
    have b1 := wb (n + 1) (by omega) i S
    have b2 := wb n (by omega) (i + 1) (S ||| 2 ^ k)
    have b3 := dfj_in X Y i k
    have b4 : -2000 ≤ wv (pre1 i k (dfj X Y i k) (fm X Y O n (i + 1) (S ||| 2 ^ k))) ∧ wv (pre1 i k (dfj X Y i k) (fm X Y O n (i + 1) (S ||| 2 ^ k))) ≤ 30000 := by rw [wv_pre1]; omega
    exact ⟨⟨inI_s (by omega) (by omega), inI_s (by omega) (by omega)⟩, fun z => y2 (fun _ => z), fun z => y1 b z⟩
  refine sg_X1_firstOut_0 ?_
  rcases fm_first (X := X) (Y := Y) (O := O) (n := n) (by omega) i S with ⟨o, h1, h2, h3, h4, h5⟩ | ⟨h1, h2⟩
  · have lp : ∀ k : Int, k ≤ o → 0 ≤ k → gI wdC d mX1_firstOut 2 [some (.inr (.inr 39)), some (.inl (i : Int)), some (.inl (S : Int)), some (.inl k)] h Q := by
      refine dn ?_ ?_
      · intro _
        exact step o h1 (fun _ _ => hq o h1 h5) (fun z => absurd h3 (z h2))
      · intro k hk ih k0
        obtain ⟨K, eK⟩ : ∃ K : Nat, k = K := ⟨k.toNat, by omega⟩
        subst eK
        exact step K (by omega) (fun a b => absurd b (h4 K (by omega) a)) (fun _ => ih (by omega))
    exact lp 0 (by omega) (by omega)
  · have lp : ∀ k : Int, k ≤ O → 0 ≤ k → gI wdC d mX1_firstOut 2 [some (.inr (.inr 39)), some (.inl (i : Int)), some (.inl (S : Int)), some (.inl k)] h Q := by
      refine dn ?_ ?_
      · intro _
        refine sg_X1_firstOut_2 (by omega) ?_
        rw [j2]
        exact ⟨⟨inI_s (by omega) (by omega), inI_s (by omega) (by omega)⟩, fun _ => hz h2, fun z => absurd z (by omega)⟩
      · intro k hk ih k0
        obtain ⟨K, eK⟩ : ∃ K : Nat, k = K := ⟨k.toNat, by omega⟩
        subst eK
        exact step K (by omega) (fun a b => absurd b (h1 K (by omega) a)) (fun _ => ih (by omega))
    exact lp 0 (by omega) (by omega)
theorem C_choose {d : Nat} {X Y : Int → Int} {H O : Nat} {h : xH} {Q : xH → Prop} (hd : 4 ≤ d) (hJ : JC h X Y H O) (hT : TB h X Y H O 0)
    (hq : ∀ h', kp [39, 42] h h' → h' 39 0 = H → h' 39 1 = O → h' 39 2 = (fm X Y O H 0 0).1 → h' 39 3 = (fm X Y O H 0 0).2.1 → (∀ j, 0 ≤ j → j < (H : Int) → h' 42 j = (fm X Y O H 0 0).2.2 j) → Q h') : cV wdC d mX1_choose [.inr (.inr 39)] h Q := by
  have h10 := hJ.2.2.2.2.1
  have p0 : 0 < 2 ^ O := Nat.two_pow_pos O
  generalize hF : fm X Y O H 0 0 = F at hq
  have lp : ∀ n i : Nat, n + i = H → ∀ (S : Nat) (h1 : xH), S < 2 ^ O → pcs S 12 ≤ i → kp [39, 42] h h1 → h1 39 0 = h 39 0 → h1 39 1 = h 39 1 → h1 39 2 + (fm X Y O n i S).1 = F.1 → h1 39 3 + (fm X Y O n i S).2.1 = F.2.1 → (∀ j : Int, 0 ≤ j → j < i → h1 42 j = F.2.2 j) → (∀ j : Int, i ≤ j → j < H → (fm X Y O n i S).2.2 j = F.2.2 j) → gV wdC d mX1_choose 14 [some (.inr (.inr 39)), some (.inl (S : Int)), some (.inl (i : Int)), none] h1 Q := by
    intro n
    induction n with
    | zero =>
      intro i hi S h1 hS hp k e0 e1 g2 g3 g4 g5
      have J1 := hJ.keep e0 e1 (k 40 (by decide)) (k 41 (by decide))
      refine sg_X1_choose_14 (by omega) ?_
      rw [J1.1]
      have z1 : (fm X Y O 0 i S).1 = 0 := rfl
      have z2 : (fm X Y O 0 i S).2.1 = 0 := rfl
      exact ⟨⟨inI_s (by omega) (by omega), inI_s (by omega) (by omega)⟩, fun _ => hq h1 k J1.1 J1.2.1 (by omega) (by omega) (fun j a b => g4 j a (by omega)), fun z => absurd z (by omega)⟩
    | succ n ih =>
      intro i hi S h1 hS hp k e0 e1 g2 g3 g4 g5
      have hS' : S < 2 ^ 10 := Nat.lt_of_lt_of_le hS (two_pow_le (by omega))
      have J1 := hJ.keep e0 e1 (k 40 (by decide)) (k 41 (by decide))
      have T1 : TB h1 X Y H O 0 := fun i' a b S' c d => by rw [k 43 (by decide)]; exact hT i' a b S' c d
      have ih := ih (i + 1) (by omega)
      rw [show ((i + 1 : Nat) : Int) = (i : Int) + 1 by omega] at ih
      refine sg_X1_choose_14 (by omega) ?_
      rw [J1.1]
      refine ⟨⟨inI_s (by omega) (by omega), inI_s (by omega) (by omega)⟩, fun z => absurd z (by omega), fun _ => C_firstOut (n := n) (by omega) J1 T1 (by omega) hS hp (fun o ho e => ⟨by omega, inI_s (by omega) (by omega), fun _ => ⟨by omega, ?_⟩, by omega⟩) (fun e => ⟨by omega, inI_s (by omega) (by omega), by omega, fun _ => ?_⟩)⟩
      · have J2 : JC (xu (xu h1 42 i o) 39 2 (h1 39 2 + 1)) X Y H O := J1.keep (by rw [xu_ne (by decide), xu_cn (by decide)]) (by rw [xu_ne (by decide), xu_cn (by decide)]) (by rw [xu_oth (by decide), xu_oth (by decide)]) (by rw [xu_oth (by decide), xu_oth (by decide)])
        refine C_difference (by omega) J2 (by omega) (by omega) ?_
        rw [xorI_p (by omega) (by omega) (by omega), show ((o : Int)).toNat = o by omega]
        have f1 : (fm X Y O (n + 1) i S).1 = 1 + (fm X Y O n (i + 1) (S ||| 2 ^ o)).1 := by rw [e]; rfl
        have f2 : (fm X Y O (n + 1) i S).2.1 = dfj X Y i o + (fm X Y O n (i + 1) (S ||| 2 ^ o)).2.1 := by rw [e]; rfl
        have f3 : (fm X Y O (n + 1) i S).2.2 = up1 (fm X Y O n (i + 1) (S ||| 2 ^ o)).2.2 i o := by rw [e]; rfl
        refine ih _ _ (or_lt hS ho) (by have := (pcs_or S o 12).1; omega) (kp_tr k (kp_tr (kp_tr (kp_xu (by decide)) (kp_xu (by decide))) (kp_xu (by decide)))) ?_ ?_ ?_ ?_ (fun j a b => ?_) (fun j a b => ?_)
        · simp (disch := omega) only [xu_ne, xu_cn]; exact e0
        · simp (disch := omega) only [xu_ne, xu_cn]; exact e1
        · rw [xu_ne (by decide), xu_eq]; omega
        · rw [xu_eq]; omega
        · rw [xu_cn (by decide), xu_cn (by decide)]
          by_cases z : j = i
          · rw [z, xu_eq, ← g5 i (by omega) (by omega), f3, up1_eq]
          · rw [xu_ne z]; exact g4 j a (by omega)
        · rw [← g5 j (by omega) b, f3, up1_ne (by omega)]
      · have f1 : (fm X Y O (n + 1) i S).1 = 0 + (fm X Y O n (i + 1) S).1 := by rw [e]; rfl
        have f2 : (fm X Y O (n + 1) i S).2.1 = 0 + (fm X Y O n (i + 1) S).2.1 := by rw [e]; rfl
        have f3 : (fm X Y O (n + 1) i S).2.2 = up1 (fm X Y O n (i + 1) S).2.2 i (-1) := by rw [e]; rfl
        refine ih S _ hS (by omega) (kp_tr k (kp_xu (by decide))) ?_ ?_ ?_ ?_ (fun j a b => ?_) (fun j a b => ?_)
        · rw [xu_cn (by decide)]; exact e0
        · rw [xu_cn (by decide)]; exact e1
        · rw [xu_cn (by decide)]; omega
        · rw [xu_cn (by decide)]; omega
        · by_cases z : j = i
          · rw [z, xu_eq, ← g5 i (by omega) (by omega), f3, up1_eq]
          · rw [xu_ne z]; exact g4 j a (by omega)
        · rw [← g5 j (by omega) b, f3, up1_ne (by omega)]
  refine sg_X1_choose_0 (lp H 0 (by omega) 0 _ p0 (by rw [pcs_0]; omega) (kp_tr (kp_xu (by decide)) (kp_xu (by decide))) ?_ ?_ ?_ ?_ (fun j a b => by omega) (fun j a b => ?_))
  · simp (disch := omega) only [xu_ne]
  · simp (disch := omega) only [xu_ne]
  · rw [xu_ne (by decide), xu_eq, show ((0 : Nat) : Int) = 0 from rfl, hF]; omega
  · rw [xu_eq, show ((0 : Nat) : Int) = 0 from rfl, hF]; omega
  · rw [show ((0 : Nat) : Int) = 0 from rfl, hF]
theorem C_join {d : Nat} {h : xH} {s : Int → Int} {Q : xH → Prop} (hd : 5 ≤ d) (hW : WFp s) (hR : RPat h 1 2 3 4 5 s)
    (hq : ∀ h' (X Y : Int → Int) (H O : Nat), kp [39, 40, 41, 42, 43] h h' → JC h' X Y H O → (H : Int) = hg s (h 5) (s 2).toNat → (O : Int) = s 2 - hg s (h 5) (s 2).toNat → (∀ t : Nat, (t : Int) < s 2 → full s (h 5) t = true → X (hg s (h 5) t) = h 5 t) → (∀ t : Nat, (t : Int) < s 2 → full s (h 5) t = false → Y (t - hg s (h 5) t) = h 5 t) → h' 39 2 = (fm X Y O H 0 0).1 → h' 39 3 = (fm X Y O H 0 0).2.1 → (∀ j, 0 ≤ j → j < (H : Int) → h' 42 j = (fm X Y O H 0 0).2.2 j) → Q h') : cV wdC d mX1_join [.inr (.inr 39), .inr (.inr 1)] h Q := by
  have w3 := hW.2.2.1
  have q6 := hR.2.2.2.2.2.1
  have hin := hg_in s (h 5) (s 2).toNat
  refine sg_X1_join_0 (by omega) (C_sortOut (by omega) hW hR (fun h1 k1 e0 e1 g1 g2 => ?_))
  have eH : (((hg s (h 5) (s 2).toNat).toNat : Nat) : Int) = hg s (h 5) (s 2).toNat := by omega
  have eO : (((s 2 - hg s (h 5) (s 2).toNat).toNat : Nat) : Int) = s 2 - hg s (h 5) (s 2).toNat := by omega
  generalize (hg s (h 5) (s 2).toNat).toNat = H at eH
  generalize (s 2 - hg s (h 5) (s 2).toNat).toNat = O at eO
  have J1 : JC h1 (h1 40) (h1 41) H O := by
    refine ⟨by rw [e0]; omega, by rw [e1]; omega, rfl, rfl, by omega, fun j a b => ?_, fun j a b => ?_⟩
    · obtain ⟨t, t1, t2, t3⟩ := hg_surj s (h 5) (s 2).toNat j a (by omega)
      rw [← t3, g1 t (by omega) t2]
      have := q6 t (by omega) (by omega)
      omega
    · obtain ⟨t, t1, t2, t3⟩ := og_surj s (h 5) (s 2).toNat j a (by omega)
      rw [← t3, g2 t (by omega) t2]
      have := q6 t (by omega) (by omega)
      omega
  refine C_weigh (by omega) J1 (fun h2 k2 T2 => ?_)
  have J2 : JC h2 (h1 40) (h1 41) H O := J1.keep (by rw [k2 39 (by decide)]) (by rw [k2 39 (by decide)]) (k2 40 (by decide)) (k2 41 (by decide))
  refine C_choose (by omega) J2 T2 (fun h3 k3 f0 f1 f2 f3 f4 => ?_)
  exact hq h3 (h1 40) (h1 41) H O (kp_tr (kp_mono k1 (by decide)) (kp_tr (kp_mono k2 (by decide)) (kp_mono k3 (by decide)))) (J2.keep (by rw [f0]; exact J2.1.symm) (by rw [f1]; exact J2.2.1.symm) (k3 40 (by decide)) (k3 41 (by decide))) eH eO g1 g2 f2 f3 f4
