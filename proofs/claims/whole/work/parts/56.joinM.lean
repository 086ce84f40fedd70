/-! the reference's joins -/
def MJ (m : xH) (X Y : Int → Int) (H O : Nat) : Prop := m 0 15 = H ∧ m 0 16 = O ∧ H + O ≤ 10 ∧ (∀ j : Int, 0 ≤ j → j < H → m 10 j = cvT (X j) ∧ 0 ≤ X j ∧ X j < 1600) ∧ (∀ j : Int, 0 ≤ j → j < O → m 11 j = cvT (Y j) ∧ 0 ≤ Y j ∧ Y j < 1600)
def stJ (m : xH) (H : Nat) (b : Cd) : Prop := m 0 17 = b.1 ∧ m 0 18 = b.2.1 ∧ ∀ j : Int, 0 ≤ j → j < H → m 13 j = b.2.2 j
def wth (P : Int → Int) (i : Int) (g : Int → Int) : Int → Int := fun j => if j < i then P j else g j
def sbJ (b : Cd) : Prop := (-1 ≤ b.1 ∧ b.1 ≤ 10) ∧ 0 ≤ b.2.1 ∧ b.2.1 ≤ 150
theorem cvT_parts {x : Int} (h : 0 ≤ x ∧ x < 1600) : cvT x % 100 = x / 16 ∧ cvT x / 100 = x % 16 ∧ 0 ≤ cvT x ∧ cvT x < 1600 := by
  unfold cvT
  have r0 : 0 ≤ x % 16 ∧ x % 16 < 16 := by omega
  have q0 : 0 ≤ x / 16 ∧ x / 16 < 100 := by omega
  generalize x % 16 = r at *
  generalize x / 16 = q at *
  omega
theorem MJ.keep {m m' : xH} {X Y : Int → Int} {H O : Nat} (hJ : MJ m X Y H O) (e5 : m' 0 15 = m 0 15) (e6 : m' 0 16 = m 0 16) (e10 : m' 10 = m 10) (e11 : m' 11 = m 11) : MJ m' X Y H O := by
  unfold MJ
  rw [e5, e6, e10, e11]
  exact hJ
theorem wth_pre (P P' : Int → Int) (i o df M A : Int) (c : Cd) (hP : ∀ j, j < i → P' j = P j) (ho : P' i = o) : shf (M + 1) (A + df) (wth P' (i + 1)) c = shf M A (wth P i) (pre1 i o df c) := by
  unfold pre1 shf
  refine Prod.ext (by simp only; omega) (Prod.ext (by simp only; omega) ?_)
  funext j
  show (if j < i + 1 then P' j else c.2.2 j) = if j < i then P j else up1 c.2.2 i o j
  by_cases z : j < i
  · rw [if_pos (by omega), if_pos z, hP j z]
  · rw [if_neg z]
    by_cases y : j = i
    · rw [if_pos (by omega), y, up1_eq, ho]
    · rw [if_neg (by omega), up1_ne y]
theorem wth_pre0 (P P' : Int → Int) (i M A : Int) (c : Cd) (hP : ∀ j, j < i → P' j = P j) (ho : P' i = -1) : shf M A (wth P' (i + 1)) c = shf M A (wth P i) (pre0 i c) := by
  unfold pre0 shf
  refine Prod.ext (by simp only; omega) (Prod.ext (by simp only; omega) ?_)
  funext j
  show (if j < i + 1 then P' j else c.2.2 j) = if j < i then P j else up1 c.2.2 i (-1) j
  by_cases z : j < i
  · rw [if_pos (by omega), if_pos z, hP j z]
  · rw [if_neg z]
    by_cases y : j = i
    · rw [if_pos (by omega), y, up1_eq, ho]
    · rw [if_neg (by omega), up1_ne y]
theorem M_joins {X Y : Int → Int} {H O : Nat} : ∀ (n d i S : Nat) (M A : Int) (m : xH) (b : Cd) (Q : xH → Prop), n ≤ d → n + i = H → S < 2 ^ O → (0 ≤ M ∧ M ≤ i) → (0 ≤ A ∧ A ≤ 15 * i) → MJ m X Y H O → stJ m H b → sbJ b →
    (∀ m', kp [0, 12, 13] m m' → (∀ k, k ≠ 17 → k ≠ 18 → m' 0 k = m 0 k) → (∀ j, j < (i : Int) → m' 12 j = m 12 j) → stJ m' H (imp b (shf M A (wth (m 12) i) (fm X Y O n i S))) → Q m') → cV wdM d mX8_joins [.inr (.inr 0), .inl (i : Int), .inl (S : Int), .inl M, .inl A] m Q := by
  intro n
  induction n with
  | zero =>
    intro d i S M A m b Q _ hi hS hM hA hJ hst hsb hq
    obtain ⟨s1, s2, s3⟩ := id hst
    unfold sbJ at hsb
    have j1 := hJ.1
    have h10 := hJ.2.2.1
    -- the copy
    have cp : bt b (shf M A (wth (m 12) i) (fm X Y O 0 i S)) = true → ∀ t : Int, t ≤ H → 0 ≤ t → ∀ m1 : xH, kp [0, 13] m m1 → (∀ k, k ≠ 17 → k ≠ 18 → m1 0 k = m 0 k) → m1 0 17 = M → m1 0 18 = A → (∀ j, 0 ≤ j → j < t → m1 13 j = m 12 j) → gV wdM d mX8_joins 48 [some (.inr (.inr 0)), none, none, none, none, some (.inl t)] m1 Q := by
      intro hb
      refine dn ?_ ?_
      · intro _ m1 k e0 e17 e18 hj
        refine sg_X8_joins_48 ?_
        rw [e0 15 (by omega) (by omega), j1]
        refine ⟨⟨inI_s (by omega) (by omega), inI_s (by omega) (by omega)⟩, fun _ => hq m1 (kp_mono k (by decide)) e0 (fun j _ => by rw [k 12 (by decide)]) ?_, fun z => absurd z (by omega)⟩
        rw [imp_t hb]
        refine ⟨?_, ?_, fun j a c => ?_⟩
        · rw [e17]; show M = M + 0; omega
        · rw [e18]; show A = A + 0; omega
        · show m1 13 j = if j < (i : Int) then m 12 j else _
          rw [if_pos (by omega)]; exact hj j a c
      · intro t ht ih t0 m1 k e0 e17 e18 hj
        refine sg_X8_joins_48 ?_
        rw [e0 15 (by omega) (by omega), j1]
        refine ⟨⟨inI_s (by omega) (by omega), inI_s (by omega) (by omega)⟩, fun z => absurd z (by omega), fun _ => ⟨by omega, by omega, ih (by omega) _ (kp_tr k (kp_xu (by decide))) (fun k a c => by rw [xu_cn (by decide)]; exact e0 k a c) (by rw [xu_cn (by decide)]; exact e17) (by rw [xu_cn (by decide)]; exact e18) (fun j a c => ?_)⟩⟩
        by_cases z : j = t
        · rw [z, xu_eq, k 12 (by decide)]
        · rw [xu_ne z]; exact hj j a (by omega)
    have c1 : (shf M A (wth (m 12) i) (fm X Y O 0 i S)).1 = M + 0 := rfl
    have c2 : (shf M A (wth (m 12) i) (fm X Y O 0 i S)).2.1 = A + 0 := rfl
    have no : bt b (shf M A (wth (m 12) i) (fm X Y O 0 i S)) = false → Q m := fun hb => hq m (kp_rf _ _) (fun _ _ _ => rfl) (fun _ _ => rfl) (by rw [imp_f hb]; exact hst)
    have go : bt b (shf M A (wth (m 12) i) (fm X Y O 0 i S)) = true → gV wdM d mX8_joins 48 [some (.inr (.inr 0)), none, none, none, none, some (.inl 0)] (xu (xu m 0 17 M) 0 18 A) Q := fun hb => cp hb 0 (by omega) (by omega) _ (kp_tr (kp_xu (by decide)) (kp_xu (by decide))) (fun k a c => by rw [xu_ne c, xu_ne a]) (by rw [xu_ne (by decide), xu_eq]) xu_eq (fun j a c => by omega)
    refine sg_X8_joins_0 ?_
    rw [j1, s1, s2]
    refine ⟨⟨inI_s (by omega) (by omega), inI_s (by omega) (by omega)⟩, fun z => absurd (by omega) z, fun _ => ⟨⟨inI_s (by omega) (by omega), inI_s (by omega) (by omega)⟩, fun z => no ?_, fun z => ⟨⟨inI_s (by omega) (by omega), inI_s (by omega) (by omega)⟩, fun z2 => go ?_, fun z2 => ⟨⟨inI_s (by omega) (by omega), inI_s (by omega) (by omega)⟩, fun z3 => go ?_, fun z3 => no ?_⟩⟩⟩⟩
    · rw [bt_no, c1, c2]; omega
    · rw [bt_iff, c1, c2]; omega
    · rw [bt_iff, c1, c2]; omega
    · rw [bt_no, c1, c2]; omega
  | succ n ih =>
    intro d i S M A m b Q hd hi hS hM hA hJ hst hsb hq
    have hS' : S < 2 ^ 10 := Nat.lt_of_lt_of_le hS (two_pow_le (by have := hJ.2.2.1; omega))
    have h10 := hJ.2.2.1
    have fb := fun k => fo_b (X := X) (Y := Y) (i := i) (S := S) (n := n) (by omega) (fm_b (X := X) (Y := Y) (O := O) n ((i : Int) + 1)) k
    have lp : ∀ k : Int, k ≤ O → 0 ≤ k → ∀ m1 : xH, kp [0, 12, 13] m m1 → (∀ k, k ≠ 17 → k ≠ 18 → m1 0 k = m 0 k) → (∀ j, j < (i : Int) → m1 12 j = m 12 j) → stJ m1 H (imp b (shf M A (wth (m 12) i) (fo X Y i S (fm X Y O n (i + 1)) k.toNat))) → gV wdM d mX8_joins 81 [some (.inr (.inr 0)), some (.inl (i : Int)), some (.inl (S : Int)), some (.inl M), some (.inl A), some (.inl k)] m1 Q := by
      -- what is best so far stays small
      have small : ∀ k, sbJ (imp b (shf M A (wth (m 12) i) (fo X Y i S (fm X Y O n (i + 1)) k))) := fun k => by
        have f := fb k
        unfold sbJ at hsb ⊢
        unfold imp
        split
        · rename_i hb
          rw [bt_iff] at hb
          unfold shf at hb ⊢
          simp only at hb ⊢
          omega
        · exact hsb
      refine dn ?_ ?_
      · intro _ m1 k1 e0 e12 hs1
        have J1 := hJ.keep (e0 15 (by omega) (by omega)) (e0 16 (by omega) (by omega)) (k1 10 (by decide)) (k1 11 (by decide))
        refine sg_X8_joins_81 (by omega) ?_
        rw [J1.2.1]
        refine ⟨⟨inI_s (by omega) (by omega), inI_s (by omega) (by omega)⟩, fun _ => ⟨by omega, ?_⟩, fun z => absurd z (by omega)⟩
        rw [show (i : Int) + 1 = ((i + 1 : Nat) : Int) by omega]
        have J2 : MJ (xu m1 12 i (-1)) X Y H O := J1.keep (by rw [xu_cn (by decide)]) (by rw [xu_cn (by decide)]) (by rw [xu_oth (by decide)]) (by rw [xu_oth (by decide)])
        refine ih (d - 1) (i + 1) S M A _ (imp b (shf M A (wth (m 12) i) (fo X Y i S (fm X Y O n (i + 1)) O))) Q (by omega) (by omega) hS (by omega) (by omega) J2 ?_ (small O) (fun m' k2 g0 g12 hs2 => ?_)
        · obtain ⟨s1, s2, s3⟩ := hs1
          exact ⟨by rw [xu_cn (by decide)]; exact s1, by rw [xu_cn (by decide)]; exact s2, fun j a c => by rw [xu_cn (by decide)]; exact s3 j a c⟩
        · refine hq m' (kp_tr k1 (kp_tr (kp_xu (by decide)) k2)) (fun k a c => by rw [g0 k a c, xu_cn (by decide)]; exact e0 k a c) (fun j a => by rw [g12 j (by omega), xu_ne (by omega)]; exact e12 j a) ?_
          rw [show ((i + 1 : Nat) : Int) = (i : Int) + 1 by omega, wth_pre0 (m 12) _ i M A _ (fun j a => by rw [xu_ne (by omega)]; exact e12 j a) xu_eq, imp_assoc, ← shf_imp] at hs2
          rw [fm]
          exact hs2
      · intro k hk ihk k0 m1 k1 e0 e12 hs1
        obtain ⟨K, eK⟩ : ∃ K : Nat, k = K := ⟨k.toNat, by omega⟩
        subst eK
        have ihk := ihk (by omega)
        rw [show ((K : Int) + 1).toNat = K + 1 by omega] at ihk
        rw [show ((K : Int)).toNat = K by omega] at hs1
        have J1 := hJ.keep (e0 15 (by omega) (by omega)) (e0 16 (by omega) (by omega)) (k1 10 (by decide)) (k1 11 (by decide))
        have x := J1.2.2.2.1 i (by omega) (by omega)
        have y := J1.2.2.2.2 K (by omega) (by omega)
        have x' := cvT_parts x.2
        have y' := cvT_parts y.2
        have b01 := bti_01 S K
        have skip : okj X Y i S K = false → gV wdM d mX8_joins 81 [some (.inr (.inr 0)), some (.inl (i : Int)), some (.inl (S : Int)), some (.inl M), some (.inl A), some (.inl ((K : Int) + 1))] m1 Q := fun hb => ihk m1 k1 e0 e12 (by rw [fo, hb, if_neg (by decide)]; exact hs1)
        refine sg_X8_joins_81 (by omega) ?_
        rw [J1.2.1, x_bitI (by omega) (by omega), show ((K : Int)).toNat = K by omega, x.1, y.1, x'.1, y'.1, x'.2.1, y'.2.1]
        refine ⟨⟨inI_s (by omega) (by omega), inI_s (by omega) (by omega)⟩, fun z => absurd z (by omega), fun _ => ⟨⟨inI_s (by omega) (by omega), by omega⟩, inI_s (by omega) (by omega), fun z => skip ?_, fun z => ⟨by omega, ⟨by omega, inI_s (by omega) (by omega)⟩, by omega, ⟨by omega, inI_s (by omega) (by omega)⟩, ⟨inI_s (by omega) (by omega), inI_s (by omega) (by omega)⟩, fun z2 => ⟨by omega, by omega, by omega, ⟨by omega, inI_s (by omega) (by omega)⟩, by omega, ⟨by omega, inI_s (by omega) (by omega)⟩, inI_s (by omega) (by omega), ?_⟩, fun z2 => skip ?_⟩⟩⟩
        · unfold okj
          unfold bti at z
          cases hb : S.testBit K with
          | true => rfl
          | false => rw [hb] at z; exact absurd z (by decide)
        · have hok : okj X Y i S K = true := by
            unfold okj
            unfold bti at z
            cases hb : S.testBit K with
            | true => rw [hb] at z; exact absurd rfl z
            | false => rw [decide_eq_true z2]; rfl
          have db := dfj_in X Y i K
          have hxp := xorI_p (a := S) (p := (K : Int)) (by omega) (by omega) (by omega)
          rw [show ((K : Int)).toNat = K by omega] at hxp
          rw [hxp, show (i : Int) + 1 = ((i + 1 : Nat) : Int) by omega, show max (Y K % 16 - X i % 16) (-(Y K % 16 - X i % 16)) = dfj X Y i K from rfl]
          have J2 : MJ (xu m1 12 i K) X Y H O := J1.keep (by rw [xu_cn (by decide)]) (by rw [xu_cn (by decide)]) (by rw [xu_oth (by decide)]) (by rw [xu_oth (by decide)])
          refine ih (d - 1) (i + 1) (S ||| 2 ^ K) (M + 1) (A + dfj X Y i K) _ (imp b (shf M A (wth (m 12) i) (fo X Y i S (fm X Y O n (i + 1)) K))) _ (by omega) (by omega) (or_lt hS (by omega)) (by omega) (by omega) J2 ?_ (small K) (fun m' k2 g0 g12 hs2 => ?_)
          · obtain ⟨s1, s2, s3⟩ := hs1
            exact ⟨by rw [xu_cn (by decide)]; exact s1, by rw [xu_cn (by decide)]; exact s2, fun j a c => by rw [xu_cn (by decide)]; exact s3 j a c⟩
          · refine ihk m' (kp_tr k1 (kp_tr (kp_xu (by decide)) k2)) (fun k a c => by rw [g0 k a c, xu_cn (by decide)]; exact e0 k a c) (fun j a => by rw [g12 j (by omega), xu_ne (by omega)]; exact e12 j a) ?_
            rw [show ((i + 1 : Nat) : Int) = (i : Int) + 1 by omega, wth_pre (m 12) _ i K (dfj X Y i K) M A _ (fun j a => by rw [xu_ne (by omega)]; exact e12 j a) xu_eq, imp_assoc, ← shf_imp] at hs2
            rw [fo, hok, if_pos rfl]
            exact hs2
        · unfold okj
          rw [decide_eq_false (by omega), Bool.and_false]
    refine sg_X8_joins_0 ?_
    rw [hJ.1]
    refine ⟨⟨inI_s (by omega) (by omega), inI_s (by omega) (by omega)⟩, fun _ => lp 0 (by omega) (by omega) m (kp_rf _ _) (fun _ _ _ => rfl) (fun _ _ => rfl) ?_, fun z => absurd z (by omega)⟩
    have hb : bt b (shf M A (wth (m 12) i) (fo X Y i S (fm X Y O n (i + 1)) (0 : Int).toNat)) = false := by
      rw [bt_no]
      have c1 : (shf M A (wth (m 12) i) (fo X Y i S (fm X Y O n (i + 1)) (0 : Int).toNat)).1 = M + -1000 := rfl
      rw [c1]
      unfold sbJ at hsb
      omega
    rw [imp_f hb]
    exact hst
