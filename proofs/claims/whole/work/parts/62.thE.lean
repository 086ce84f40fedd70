/-! lawful orders: the reference -/
def MT (m : xH) (n : Nat) (L SL : Int → Int) (B : Nat → Nat) : Prop := m 0 10 = n ∧ ∀ j : Nat, j < n → m 8 j = L j ∧ (0 ≤ L j ∧ L j < 30) ∧ m 1 (35 + L j) = SL j ∧ ∃ N : Nat, m 5 (L j) = N ∧ N < 2 ^ 30 ∧ ∀ i : Nat, i < n → N.testBit (L i).toNat = (B j).testBit i
theorem MT.keep {m m' : xH} {n : Nat} {L SL : Int → Int} {B : Nat → Nat} {l : List Nat} (c : MT m n L SL B) (k : kp l m m') (hl : 0 ∉ l ∧ 1 ∉ l ∧ 5 ∉ l ∧ 8 ∉ l) : MT m' n L SL B := by
  unfold MT
  rw [k 0 hl.1, k 1 hl.2.1, k 5 hl.2.2.1, k 8 hl.2.2.2]
  exact c
def mm (v : Int) : Int := if v < 0 then 1000000 else v
theorem mm_step {v g : Int} (hv : -1 ≤ v ∧ v ≤ 1000) (hg : 0 ≤ g ∧ g ≤ 1000) : min (mm v) g = mm (if v < 0 ∨ g < v then g else v) := by
  unfold mm
  by_cases c1 : v < 0
  · rw [if_pos c1, if_pos (Or.inl c1), if_neg (by omega)]; omega
  · rw [if_neg c1]
    by_cases c2 : g < v
    · rw [if_pos (Or.inr c2), if_neg (by omega)]; omega
    · rw [if_neg (by omega), if_neg (by omega)]; omega
theorem mm_in {v : Int} (hv : -1 ≤ v ∧ v ≤ 1000) : 0 ≤ mm v ∧ mm v ≤ 1000000 := by unfold mm; split <;> omega
section TE
variable {d n : Nat} {B : Nat → Nat} {L SL : Int → Int} {m : xH}
theorem M_mayCome {S i : Nat} {T F : xH → Prop} (hT : TH n B SL) (c : MT m n L SL B) (hS : S < 2 ^ n) (hi : i < n) (ht : may B S i = true → T m) (hf : may B S i = false → F m) : cB wdM d mX8_mayCome [.inr (.inr 0), .inl (i : Int), .inl (S : Int)] m T F := by
  have t1 := hT.1
  have p1 := p2_12 t1
  obtain ⟨c0, c1⟩ := id c
  obtain ⟨l1, l2, l3, N, l4, l5, l6⟩ := c1 i hi
  have l5' : N < 1073741824 := l5
  have nof : ∀ j : Nat, (B i).testBit j = true → S.testBit j = false → may B S i = false := fun j a b => by
    cases h : may B S i with
    | false => rfl
    | true => rw [(may_t h).2 j a] at b; cases b
  have lp : S.testBit i = false → ∀ t : Int, t ≤ n → 0 ≤ t → (∀ j : Nat, (j : Int) < t → (B i).testBit j = true → S.testBit j = true) → gI wdM d mX8_mayCome 13 [some (.inr (.inr 0)), some (.inl (i : Int)), some (.inl (S : Int)), some (.inl t)] m (fun r h1 => (r = 1 ∧ T h1) ∨ (r = 0 ∧ F h1)) := by
    intro hb
    refine dn ?_ ?_
    · intro _ hj
      refine sg_X8_mayCome_13 ?_
      rw [c0]
      refine ⟨⟨inI_s (by omega) (by omega), inI_s (by omega) (by omega)⟩, fun _ => Or.inl ⟨rfl, ht (may_mk hb (fun j a => ?_))⟩, fun z => absurd z (by omega)⟩
      exact hj j (by have := bit_lt (hT.2.1 i hi) a; omega) a
    · intro t htt ih t0 hj
      obtain ⟨I, eI⟩ : ∃ I : Nat, t = I := ⟨t.toNat, by omega⟩
      subst eI
      have ih := ih (by omega)
      obtain ⟨x1, x2, _⟩ := c1 I (by omega)
      have b01 := bti_01 S I
      have n01 := bti_01 N (L I).toNat
      refine sg_X8_mayCome_13 ?_
      rw [c0, l1, x1, l4, x_bitL (by omega) x2.1, x_bitI (by omega) (by omega), show ((I : Int)).toNat = I by omega]
      refine ⟨⟨inI_s (by omega) (by omega), inI_s (by omega) (by omega)⟩, fun z => absurd z (by omega), fun _ => ⟨by omega, by omega, by omega, ⟨by unfold inL; omega, by omega, by omega⟩, inL_s (by omega) (by omega), fun z => ih (fun j a e => ?_), fun z => ⟨⟨inI_s (by omega) (by omega), by omega, by omega⟩, inI_s (by omega) (by omega), fun y => ih (fun j a e => ?_), fun y => Or.inr ⟨rfl, hf ?_⟩⟩⟩⟩
      · by_cases x : j = I
        · rw [x, ← l6 I (by omega)] at e
          unfold bti at z
          rw [e, if_pos rfl] at z
          exact absurd rfl z
        · exact hj j (by omega) e
      · by_cases x : j = I
        · rw [x]
          unfold bti at y
          cases hh : S.testBit I with
          | true => rfl
          | false => rw [hh] at y; exact absurd rfl y
        · exact hj j (by omega) e
      · refine nof I ?_ ?_
        · rw [← l6 I (by omega)]
          unfold bti at z
          cases hh : N.testBit (L I).toNat with
          | true => rfl
          | false => rw [hh] at z; exact absurd z (by decide)
        · unfold bti at y
          cases hh : S.testBit I with
          | true => rw [hh] at y; exact absurd y (by decide)
          | false => rfl
  have b01 := bti_01 S i
  refine sg_X8_mayCome_0 ?_
  rw [x_bitI (by omega) (by omega), show ((i : Int)).toNat = i by omega]
  refine ⟨⟨inI_s (by omega) (by omega), by omega, by omega⟩, inI_s (by omega) (by omega), fun z => lp ?_ 0 (by omega) (by omega) (fun j a => by omega), fun z => Or.inr ⟨rfl, hf ?_⟩⟩
  · unfold bti at z
    cases hh : S.testBit i with
    | true => rw [hh] at z; exact absurd rfl z
    | false => rfl
  · unfold bti at z
    cases hh : S.testBit i with
    | true => unfold may; rw [hh]; rfl
    | false => rw [hh] at z; exact absurd z (by decide)
theorem M_oneLacks {b : Bool} {Q : Int → xH → Prop} (hd : 2 ≤ d) (hW : WFp (m 1)) (hn : n ≤ 12) (c0 : m 0 10 = n) (c1 : ∀ j : Nat, j < n → m 8 j = L j ∧ 0 ≤ L j ∧ L j < m 1 1) (hb : b = true ↔ ∀ j : Nat, j < n → lks (m 1) (L j) = false) (hq : Q (b2i (!b)) m) : cI wdM d mX8_oneLacks [.inr (.inr 0)] m Q := by
  have lp : ∀ t : Int, t ≤ n → 0 ≤ t → (∀ j : Nat, (j : Int) < t → lks (m 1) (L j) = false) → gI wdM d mX8_oneLacks 2 [some (.inr (.inr 0)), some (.inl t)] m Q := by
    refine dn ?_ ?_
    · intro _ hj
      refine sg_X8_oneLacks_2 (by omega) ?_
      rw [c0]
      refine ⟨⟨inI_s (by omega) (by omega), inI_s (by omega) (by omega)⟩, fun _ => ?_, fun z => absurd z (by omega)⟩
      rw [hb.mpr (fun j a => hj j (by omega))] at hq
      exact hq
    · intro t htt ih t0 hj
      obtain ⟨I, eI⟩ : ∃ I : Nat, t = I := ⟨t.toNat, by omega⟩
      subst eI
      have ih := ih (by omega)
      have l := c1 I (by omega)
      refine sg_X8_oneLacks_2 (by omega) ?_
      rw [c0, l.1]
      refine ⟨⟨inI_s (by omega) (by omega), inI_s (by omega) (by omega)⟩, fun z => absurd z (by omega), fun _ => ⟨by omega, M_lacks (by omega) hW l.2 (fun g => ?_) (fun g => ih (fun j a => ?_))⟩⟩
      · have : b = false := by
          cases hh : b with
          | false => rfl
          | true => have := hb.mp hh I (by omega); rw [g] at this; cases this
        rw [this] at hq
        exact hq
      · by_cases x : j = I
        · rw [x]; exact g
        · exact hj j (by omega)
  exact sg_X8_oneLacks_0 (lp 0 (by omega) (by omega) (fun j a => by omega))
/-- what the tables hold in the row of a set, i looked at -/
def vw (B : Nat → Nat) (n j i : Nat) : Int := if zc j n = 0 then 1 else sw (may B j) (fun i => WY B n (j ||| 2 ^ i)) i
def vl (B : Nat → Nat) (SL : Int → Int) (n j : Nat) (f : Int) (i : Nat) : Int := if zc j n = 0 then 0 else mm (mf (may B j) (lg1 B SL n j f) i)
theorem vw_end (B : Nat → Nat) (n j : Nat) : vw B n j n = WY B n j := by
  unfold vw
  by_cases z : zc j n = 0
  · rw [if_pos z, WY_full z]
  · rw [if_neg z, WY_st z]
theorem vl_end (hT : TH n B SL) {j : Nat} {f : Int} (hj : j < 2 ^ n) (hf : 0 ≤ f ∧ f ≤ 11) : vl B SL n j f n = LT B SL n j f := by
  unfold vl
  by_cases z : zc j n = 0
  · rw [if_pos z, LT_full z]
  · have := LT_b hT hj hf
    rw [if_neg z, ← LT_st z]
    unfold mm
    rw [if_neg (by omega)]
theorem vw_f {j i : Nat} (h : may B j i = false) : vw B n j (i + 1) = vw B n j i := by unfold vw; rw [sw_f h]
theorem vl_f {j i : Nat} {f : Int} (h : may B j i = false) : vl B SL n j f (i + 1) = vl B SL n j f i := by unfold vl; rw [mf_f h]
theorem vw_t {j i : Nat} (hi : i < n) (h : may B j i = true) : vw B n j (i + 1) = vw B n j i + WY B n (j ||| 2 ^ i) := by
  have : zc j n ≠ 0 := fun z => by rw [may_full z hi] at h; cases h
  unfold vw
  rw [if_neg this, if_neg this, sw_t h]
theorem vl_t (hT : TH n B SL) {j i : Nat} {f : Int} (hj : j < 2 ^ n) (hf : 0 ≤ f ∧ f ≤ 11) (hi : i < n) (h : may B j i = true) : min (vl B SL n j f i) (lg1 B SL n j f i) = vl B SL n j f (i + 1) := by
  have : zc j n ≠ 0 := fun z => by rw [may_full z hi] at h; cases h
  have a := mf_in hT hj hf i (by omega)
  have b := lg1_b hT hj hf hi
  unfold vl
  rw [if_neg this, if_neg this, mm_step (by omega) (by omega), mf_t h]
theorem vl_in (hT : TH n B SL) {j i : Nat} {f : Int} (hj : j < 2 ^ n) (hf : 0 ≤ f ∧ f ≤ 11) (hi : i ≤ n) : 0 ≤ vl B SL n j f i ∧ vl B SL n j f i ≤ 1000000 := by
  have a := mf_in hT hj hf i hi
  unfold vl
  split
  · omega
  · exact mm_in (by omega)
def HiT (m1 : xH) (B : Nat → Nat) (SL : Int → Int) (n j : Nat) (b : Bool) : Prop := (b = true → ∀ S : Nat, j ≤ S → S < 2 ^ n → m1 6 S = WY B n S ∧ ∀ i : Nat, i < n → m1 9 ((12 * S + i : Nat) : Int) = LT B SL n S (SL i)) ∧ (b = false → ∀ S : Nat, j ≤ S → S < 2 ^ n → m1 6 S = 0)
theorem HiT.upd6 {m1 : xH} {j : Nat} {b : Bool} {v : Int} (h : HiT m1 B SL n (j + 1) b) : HiT (xu m1 6 j v) B SL n (j + 1) b := by
  refine ⟨fun e S a c => ?_, fun e S a c => ?_⟩
  · rw [xu_ne (by omega)]
    exact ⟨(h.1 e S a c).1, fun i hi => by rw [xu_cn (by decide)]; exact (h.1 e S a c).2 i hi⟩
  · rw [xu_ne (by omega)]; exact h.2 e S a c
theorem HiT.upd9 {m1 : xH} {j k : Nat} {b : Bool} {v : Int} (hn : n ≤ 12) (hk : k < n) (h : HiT m1 B SL n (j + 1) b) : HiT (xu m1 9 ((12 * j + k : Nat) : Int) v) B SL n (j + 1) b := by
  refine ⟨fun e S a c => ?_, fun e S a c => ?_⟩
  · rw [xu_cn (by decide)]
    exact ⟨(h.1 e S a c).1, fun i hi => by rw [xu_ne (by omega)]; exact (h.1 e S a c).2 i hi⟩
  · rw [xu_cn (by decide)]; exact h.2 e S a c
theorem M_goesBack {b : Bool} {Q : xH → Prop} (hd : 3 ≤ d) (hT : TH n B SL) (c : MT m n L SL B) (hW : WFp (m 1)) (hL : ∀ j : Nat, j < n → L j < m 1 1) (hb : b = true ↔ ∀ j : Nat, j < n → lks (m 1) (L j) = false) (hq : ∀ m', kp [6, 9] m m' → HiT m' B SL n 0 b → Q m') : cV wdM d mX8_goesBack [.inr (.inr 0)] m Q := by
  have t1 := hT.1
  have p0 := Nat.two_pow_pos n
  have p1 := p2_12 t1
  have kC : ∀ m1, kp [6, 9] m m1 → MT m1 n L SL B := fun m1 k => c.keep k (by decide)
  have b01 := b2i_01 (!b)
  have rows : ∀ j : Nat, j ≤ 2 ^ n → ∀ m1 : xH, kp [6, 9] m m1 → HiT m1 B SL n j b → gV wdM d mX8_goesBack 16 [some (.inr (.inr 0)), some (.inl ((2 ^ n - 1 : Nat) : Int)), some (.inl (b2i (!b))), some (.inl ((j : Int) - 1)), none, none, none, none] m1 Q := by
    intro j
    induction j with
    | zero =>
      intro _ m1 k hH
      exact sg_X8_goesBack_16 ⟨inI_s (by omega) (by omega), fun _ => hq m1 k hH, fun z => absurd z (by omega)⟩
    | succ j ih =>
      intro hj m1 k hH
      rw [show ((j + 1 : Nat) : Int) - 1 = (j : Int) by omega]
      have hjl : j < 2 ^ n := by omega
      have ih := ih (by omega)
      have ful := full_iff hjl
      -- all looked at
      have fin : ∀ m2, kp [6, 9] m m2 → HiT m2 B SL n (j + 1) b → (b = true → m2 6 j = vw B n j n ∧ ∀ k : Nat, k < n → m2 9 ((12 * j + k : Nat) : Int) = vl B SL n j (SL k) n) → (b = false → m2 6 j = 0) → gV wdM d mX8_goesBack 16 [some (.inr (.inr 0)), some (.inl ((2 ^ n - 1 : Nat) : Int)), some (.inl (b2i (!b))), some (.inl ((j : Int) + (-1))), none, none, none, none] m2 Q := fun m2 k2 h2 a1 a2 => by
        rw [show (j : Int) + (-1) = (j : Int) - 1 by omega]
        refine ih m2 k2 ⟨fun e S a c => ?_, fun e S a c => ?_⟩
        · by_cases y : S = j
          · rw [y]
            have := a1 e
            rw [vw_end] at this
            exact ⟨this.1, fun i hi => by rw [this.2 i hi, vl_end hT hjl (hT.2.2.1 i hi)]⟩
          · exact h2.1 e S (by omega) c
        · by_cases y : S = j
          · rw [y]; exact a2 e
          · exact h2.2 e S (by omega) c
      have mid : ∀ i : Int, i ≤ n → 0 ≤ i → ∀ m2, kp [6, 9] m m2 → HiT m2 B SL n (j + 1) b → (b = true → m2 6 j = vw B n j i.toNat ∧ ∀ k : Nat, k < n → m2 9 ((12 * j + k : Nat) : Int) = vl B SL n j (SL k) i.toNat) → (b = false → m2 6 j = 0) → gV wdM d mX8_goesBack 88 [some (.inr (.inr 0)), some (.inl ((2 ^ n - 1 : Nat) : Int)), some (.inl (b2i (!b))), some (.inl (j : Int)), some (.inl i), none, none, none] m2 Q := by
        refine dn ?_ ?_
        · intro _ m2 k2 h2 a1 a2
          refine sg_X8_goesBack_88 (by omega) ?_
          rw [(kC m2 k2).1]
          refine ⟨⟨inI_s (by omega) (by omega), inI_s (by omega) (by omega)⟩, fun _ => fin m2 k2 h2 (fun e => ?_) a2, fun z => absurd z (by omega)⟩
          have := a1 e
          rw [show (Int.toNat (n : Int)) = n by omega] at this
          exact this
        · intro i hi ihi i0 m2 k2 h2 a1 a2
          obtain ⟨I, eI⟩ : ∃ I : Nat, i = I := ⟨i.toNat, by omega⟩
          subst eI
          have ihi := ihi (by omega)
          rw [show ((I : Int) + 1).toNat = I + 1 by omega] at ihi
          rw [show (Int.toNat (I : Int)) = I by omega] at a1
          have oT := or_lt' hjl (i := I) (by omega)
          have cI := (kC m2 k2).2 I (by omega)
          refine sg_X8_goesBack_88 (by omega) ?_
          rw [(kC m2 k2).1, xorI_i (i := I) t1 hjl (by omega)]
          refine ⟨⟨inI_s (by omega) (by omega), inI_s (by omega) (by omega)⟩, fun z => absurd z (by omega), fun _ => ⟨inI_s (by omega) (by omega), fun z => ?_, fun z => ?_⟩⟩
          · have eb : b = false := by
              cases hh : b with
              | false => rfl
              | true => rw [hh] at z; exact absurd rfl z
            exact fin m2 k2 h2 (fun e => by rw [eb] at e; cases e) a2
          · have eb : b = true := by
              cases hh : b with
              | true => rfl
              | false => rw [hh] at z; exact absurd z (by decide)
            have a1 := a1 eb
            refine M_mayCome hT (kC m2 k2) hjl (by omega) (fun hm => ?_) (fun hm => ihi m2 k2 h2 (fun _ => ?_) a2)
            · have lt := lt_or (may_t hm).1
              have hi2 := h2.1 eb (j ||| 2 ^ I) (by omega) oT
              have inn : ∀ q : Int, q ≤ n → 0 ≤ q → ∀ m3, kp [6, 9] m m3 → HiT m3 B SL n (j + 1) b → m3 6 j = vw B n j (I + 1) → (∀ k : Nat, k < n → m3 9 ((12 * j + k : Nat) : Int) = vl B SL n j (SL k) (if (k : Int) < q then I + 1 else I)) → gV wdM d mX8_goesBack 141 [some (.inr (.inr 0)), some (.inl ((2 ^ n - 1 : Nat) : Int)), some (.inl (b2i (!b))), some (.inl (j : Int)), some (.inl (I : Int)), some (.inl ((j ||| 2 ^ I : Nat) : Int)), some (.inl q), none] m3 Q := by
                refine dn ?_ ?_
                · intro _ m3 k3 h3 g1 g2
                  refine sg_X8_goesBack_141 (by omega) ?_
                  rw [(kC m3 k3).1]
                  refine ⟨⟨inI_s (by omega) (by omega), inI_s (by omega) (by omega)⟩, fun _ => ihi m3 k3 h3 (fun _ => ⟨g1, fun k hk => ?_⟩) (fun e => by rw [eb] at e; cases e), fun z => absurd z (by omega)⟩
                  rw [g2 k hk, if_pos (by omega)]
                · intro q hq' ihq q0 m3 k3 h3 g1 g2
                  obtain ⟨K, eK⟩ : ∃ K : Nat, q = K := ⟨q.toNat, by omega⟩
                  subst eK
                  have ihq := ihq (by omega)
                  have c3 := kC m3 k3
                  obtain ⟨x1, x2, x3, _⟩ := c3.2 K (by omega)
                  obtain ⟨y1, y2, y3, _⟩ := c3.2 I (by omega)
                  have sK := hT.2.2.1 K (by omega)
                  have sI := hT.2.2.1 I (by omega)
                  have e9 := (h3.1 eb (j ||| 2 ^ I) (by omega) oT).2 I (by omega)
                  have g2K := g2 K (by omega)
                  rw [if_neg (by omega)] at g2K
                  have vb := vl_in hT hjl sK (i := I) (by omega)
                  have lb := LT_b hT oT sI
                  refine sg_X8_goesBack_141 (by omega) ?_
                  rw [c3.1, x1, y1, x3, y3, show (12 * (j : Int) + K) = ((12 * j + K : Nat) : Int) by omega, show (12 * ((j ||| 2 ^ I : Nat) : Int) + I) = ((12 * (j ||| 2 ^ I) + I : Nat) : Int) by omega, e9, g2K]
                  refine ⟨⟨inI_s (by omega) (by omega), inI_s (by omega) (by omega)⟩, fun z => absurd z (by omega), fun _ => ⟨by omega, by omega, by omega, by omega, inI_s (by omega) (by omega), by omega, by omega, ⟨inI_s (by omega) (by omega), inI_s (by omega) (by omega)⟩, by omega, ?_⟩⟩
                  have ev : min (vl B SL n j (SL K) I) (max (SL K - SL I) (-(SL K - SL I)) + LT B SL n (j ||| 2 ^ I) (SL I)) = vl B SL n j (SL K) (I + 1) := vl_t hT hjl sK (by omega) hm
                  rw [ev]
                  refine ihq _ (kp_tr k3 (kp_xu (by decide))) (h3.upd9 t1 (by omega)) (by rw [xu_cn (by decide)]; exact g1) (fun k hk => ?_)
                  by_cases y : k = K
                  · rw [y, xu_eq, if_pos (by omega)]
                  · rw [xu_ne (by omega), g2 k hk]
                    by_cases w : (k : Int) < K
                    · rw [if_pos w, if_pos (by omega)]
                    · rw [if_neg w, if_neg (by omega)]
              refine ⟨by omega, by omega, by omega, by omega, inn 0 (by omega) (by omega) _ (kp_tr k2 (kp_xu (by decide))) h2.upd6 ?_ (fun k hk => ?_)⟩
              · rw [xu_eq, hi2.1, a1.1, vw_t (by omega) hm]
              · rw [xu_cn (by decide), if_neg (by omega)]; exact a1.2 k hk
            · rw [vw_f hm]
              exact ⟨a1.1, fun k hk => by rw [vl_f hm]; exact a1.2 k hk⟩
      -- the row at first
      have ini : ∀ (v : Int), (b = true → v = vw B n j 0) → (b = false → v = 0) → ∀ i : Int, i ≤ n → 0 ≤ i → ∀ m2, kp [6, 9] m m2 → HiT m2 B SL n (j + 1) b → m2 6 j = v → (b = true → ∀ k : Nat, (k : Int) < i → m2 9 ((12 * j + k : Nat) : Int) = vl B SL n j (SL k) 0) → gV wdM d mX8_goesBack 43 [some (.inr (.inr 0)), some (.inl ((2 ^ n - 1 : Nat) : Int)), some (.inl (b2i (!b))), some (.inl (j : Int)), some (.inl i), none, none, none] m2 Q := by
        intro v hv1 hv0
        refine dn ?_ ?_
        · intro _ m2 k2 h2 g1 g2
          refine sg_X8_goesBack_43 ?_
          rw [(kC m2 k2).1]
          refine ⟨⟨inI_s (by omega) (by omega), inI_s (by omega) (by omega)⟩, fun _ => mid 0 (by omega) (by omega) m2 k2 h2 (fun e => ⟨by rw [g1]; exact hv1 e, fun k hk => g2 e k (by omega)⟩) (fun e => by rw [g1]; exact hv0 e), fun z => absurd z (by omega)⟩
        · intro i hi ihi i0 m2 k2 h2 g1 g2
          obtain ⟨I, eI⟩ : ∃ I : Nat, i = I := ⟨i.toNat, by omega⟩
          subst eI
          have ihi := ihi (by omega)
          have st : ∀ w : Int, (b = true → w = vl B SL n j (SL I) 0) → gV wdM d mX8_goesBack 43 [some (.inr (.inr 0)), some (.inl ((2 ^ n - 1 : Nat) : Int)), some (.inl (b2i (!b))), some (.inl (j : Int)), some (.inl ((I : Int) + 1)), none, none, none] (xu m2 9 ((12 * j + I : Nat) : Int) w) Q := fun w hw => by
            refine ihi _ (kp_tr k2 (kp_xu (by decide))) (h2.upd9 t1 (by omega)) (by rw [xu_cn (by decide)]; exact g1) (fun e k hk => ?_)
            by_cases y : k = I
            · rw [y, xu_eq]; exact hw e
            · rw [xu_ne (by omega)]; exact g2 e k (by omega)
          have nz : ¬ (j : Int) = ((2 ^ n - 1 : Nat) : Int) → gV wdM d mX8_goesBack 43 [some (.inr (.inr 0)), some (.inl ((2 ^ n - 1 : Nat) : Int)), some (.inl (b2i (!b))), some (.inl (j : Int)), some (.inl ((I : Int) + 1)), none, none, none] (xu m2 9 ((12 * j + I : Nat) : Int) 1000000) Q := fun z => st 1000000 (fun _ => by
            unfold vl
            rw [if_neg (fun y => z (by have := ful.mpr y; omega))]
            rfl)
          refine sg_X8_goesBack_43 ?_
          rw [(kC m2 k2).1, show (12 * (j : Int) + I) = ((12 * j + I : Nat) : Int) by omega]
          refine ⟨⟨inI_s (by omega) (by omega), inI_s (by omega) (by omega)⟩, fun z => absurd z (by omega), fun _ => ⟨⟨inI_s (by omega) (by omega), inI_s (by omega) (by omega)⟩, fun z => ⟨by omega, nz z⟩, fun z => ⟨inI_s (by omega) (by omega), fun y => ⟨by omega, st 1000000 (fun e => ?_)⟩, fun y => ⟨by omega, st 0 (fun e => ?_)⟩⟩⟩⟩
          · rw [e] at y; exact absurd rfl y
          · unfold vl
            rw [if_pos (ful.mp (by omega))]
      have go : ∀ v : Int, (b = true → v = vw B n j 0) → (b = false → v = 0) → gV wdM d mX8_goesBack 43 [some (.inr (.inr 0)), some (.inl ((2 ^ n - 1 : Nat) : Int)), some (.inl (b2i (!b))), some (.inl (j : Int)), some (.inl 0), none, none, none] (xu m1 6 j v) Q := fun v a1 a2 => ini v a1 a2 0 (by omega) (by omega) _ (kp_tr k (kp_xu (by decide))) hH.upd6 xu_eq (fun _ k hk => by omega)
      refine sg_X8_goesBack_16 ⟨inI_s (by omega) (by omega), fun z => absurd z (by omega), fun _ => ⟨⟨inI_s (by omega) (by omega), inI_s (by omega) (by omega)⟩, fun z => ⟨by omega, go 0 (fun _ => ?_) (fun _ => rfl)⟩, fun z => ⟨inI_s (by omega) (by omega), fun y => ⟨by omega, go 0 (fun e => ?_) (fun _ => rfl)⟩, fun y => ⟨by omega, go 1 (fun _ => ?_) (fun e => ?_)⟩⟩⟩⟩
      · unfold vw
        rw [if_neg (fun y => z (by have := ful.mpr y; omega))]
        rfl
      · rw [e] at y; exact absurd rfl y
      · unfold vw
        rw [if_pos (ful.mp (by omega))]
      · rw [e] at y; exact absurd y (by decide)
  refine sg_X8_goesBack_0 (by omega) ?_
  rw [c.1, show (1 * 2 ^ (Int.toNat (n : Int)) - 1 : Int) = ((2 ^ n - 1 : Nat) : Int) by
    rw [Int.one_mul, show (Int.toNat (n : Int)) = n by omega, pow_nat n]; omega]
  refine ⟨by omega, M_oneLacks (by omega) hW t1 c.1 (fun j hj => ⟨(c.2 j hj).1, (c.2 j hj).2.1.1, hL j hj⟩) hb ?_⟩
  have := rows (2 ^ n) (Nat.le_refl _) m (kp_rf _ _) ⟨fun _ S a c => by omega, fun _ S a c => by omega⟩
  rw [show ((2 ^ n : Nat) : Int) - 1 = ((2 ^ n - 1 : Nat) : Int) by omega] at this
  exact this
theorem M_farFrom {S i : Nat} {f : Int} {Q : Int → xH → Prop} (hd : 1 ≤ d) (hT : TH n B SL) (c : MT m n L SL B) (hH : HiT m B SL n 0 true) (hS : S < 2 ^ n) (hi : i < n) (hf : 0 ≤ f ∧ f ≤ 11) (hq : Q (lg1 B SL n S f i) m) : cI wdM d mX8_farFrom [.inr (.inr 0), .inl f, .inl (S : Int), .inl (i : Int)] m Q := by
  have t1 := hT.1
  have p1 := p2_12 t1
  have oT := or_lt' hS hi
  obtain ⟨x1, x2, x3, _⟩ := c.2 i hi
  have sl := hT.2.2.1 i hi
  have e9 := (hH.1 rfl (S ||| 2 ^ i) (by omega) oT).2 i hi
  refine sg_X8_farFrom_0 (by omega) ?_
  rw [x1, x3, xorI_i t1 hS hi, show (12 * ((S ||| 2 ^ i : Nat) : Int) + i) = ((12 * (S ||| 2 ^ i) + i : Nat) : Int) by omega, e9]
  refine ⟨by omega, by omega, inI_s (by omega) (by omega), by omega, by omega, ?_⟩
  unfold lg1 at hq
  rw [ab_sym] at hq
  exact hq
theorem M_leastFrom {S : Nat} {f : Int} {Q : Int → xH → Prop} (hd : 2 ≤ d) (hT : TH n B SL) (c : MT m n L SL B) (hH : HiT m B SL n 0 true) (hS : S < 2 ^ n) (hf : 0 ≤ f ∧ f ≤ 11) (hq : Q (LT B SL n S f) m) : cI wdM d mX8_leastFrom [.inr (.inr 0), .inl f, .inl (S : Int)] m Q := by
  have t1 := hT.1
  have p0 := Nat.two_pow_pos n
  have p1 := p2_12 t1
  have lp : ∀ i : Int, i ≤ n → 0 ≤ i → gI wdM d mX8_leastFrom 22 [some (.inr (.inr 0)), some (.inl f), some (.inl (S : Int)), some (.inl (vl B SL n S f i.toNat)), some (.inl i)] m Q := by
    refine dn ?_ ?_
    · intro _
      refine sg_X8_leastFrom_22 (by omega) ?_
      rw [c.1, show (Int.toNat (n : Int)) = n by omega, vl_end hT hS hf]
      exact ⟨⟨inI_s (by omega) (by omega), inI_s (by omega) (by omega)⟩, fun _ => hq, fun z => absurd z (by omega)⟩
    · intro i hi ih i0
      obtain ⟨I, eI⟩ : ∃ I : Nat, i = I := ⟨i.toNat, by omega⟩
      subst eI
      have ih := ih (by omega)
      rw [show ((I : Int) + 1).toNat = I + 1 by omega] at ih
      have vb := vl_in hT hS hf (i := I) (by omega)
      refine sg_X8_leastFrom_22 (by omega) ?_
      rw [c.1, show (Int.toNat (I : Int)) = I by omega]
      refine ⟨⟨inI_s (by omega) (by omega), inI_s (by omega) (by omega)⟩, fun z => absurd z (by omega), fun _ => M_mayCome hT c hS (by omega) (fun hm => M_farFrom (by omega) hT c hH hS (by omega) hf ?_) (fun hm => ?_)⟩
      · have lb := lg1_b hT hS hf (i := I) (by omega)
        rw [vl_t hT hS hf (by omega) hm]
        exact ⟨⟨inI_s (by omega) (by omega), inI_s (by omega) (by omega)⟩, ih⟩
      · rw [vl_f hm] at ih
        exact ih
  have l0 := lp 0 (by omega) (by omega)
  have ful := full_iff hS
  refine sg_X8_leastFrom_0 ?_
  rw [c.1, show (1 * 2 ^ (Int.toNat (n : Int)) - 1 : Int) = ((2 ^ n - 1 : Nat) : Int) by
    rw [Int.one_mul, show (Int.toNat (n : Int)) = n by omega, pow_nat n]; omega]
  refine ⟨by omega, ⟨inI_s (by omega) (by omega), inI_s (by omega) (by omega)⟩, fun z => ?_, fun z => ?_⟩
  · have e : vl B SL n S f (0 : Int).toNat = 1000000 := by
      unfold vl
      rw [if_neg (fun y => z (by have := ful.mpr y; omega))]
      rfl
    rw [e] at l0
    exact l0
  · have e : vl B SL n S f (0 : Int).toNat = 0 := by
      unfold vl
      rw [if_pos (ful.mp (by omega))]
    rw [e] at l0
    exact l0
theorem M_orderL {k i a : Int} {Q : Int → xH → Prop} (hd : 2 ≤ d) (hT : TH n B SL) (c : MT m n L SL B) (hH : HiT m B SL n 0 true) (hi : 0 ≤ i ∧ i < n) (hk : 0 ≤ k ∧ k < WY B n 0) (ho : Od B n L (i.toNat + 1) 0 k (-1) a) (hq : Q a m) : gI wdM d mX8_order 57 [some (.inr (.inr 0)), none, none, some (.inl i), some (.inl 0), some (.inr (.inl k)), none, some (.inl (-1)), some (.inl 0), none] m Q := by
  have t1 := hT.1
  have p0 := Nat.two_pow_pos n
  have p1 := p2_12 t1
  have w0 := WY_b hT p0
  have lp : ∀ (t : Nat) (x8 : Int) (S : Nat) (r la : Int), (t : Int) + x8 = i + 1 → 0 ≤ x8 → S < 2 ^ n → 0 ≤ r ∧ r ≤ k → Od B n L t S r la a → gI wdM d mX8_order 57 [some (.inr (.inr 0)), none, none, some (.inl i), some (.inl (S : Int)), some (.inr (.inl r)), none, some (.inl la), some (.inl x8), none] m Q := by
    intro t
    induction t with
    | zero =>
      intro x8 S r la e x0 hS hr ho
      have ho : a = la := ho
      rw [← ho]
      exact sg_X8_order_57 ⟨⟨inI_s (by omega) (by omega), inI_s (by omega) (by omega)⟩, fun _ => hq, fun z => absurd z (by omega)⟩
    | succ t ih =>
      intro x8 S r la e x0 hS hr ho
      obtain ⟨j, h1, h2, h3, h4, h5⟩ := ho
      refine sg_X8_order_57 ⟨⟨inI_s (by omega) (by omega), inI_s (by omega) (by omega)⟩, fun z => absurd z (by omega), fun _ => ?_⟩
      have g0 : ∀ i, i < n → may B S i = true → 0 ≤ (fun i => WY B n (S ||| 2 ^ i)) i := fun i hi _ => by
        have := WY_b hT (or_lt' hS hi)
        show (0 : Int) ≤ WY B n (S ||| 2 ^ i)
        omega
      have inn : ∀ x : Int, x ≤ j → 0 ≤ x → gI wdM d mX8_order 66 [some (.inr (.inr 0)), none, none, some (.inl i), some (.inl (S : Int)), some (.inr (.inl (r - sw (may B S) (fun i => WY B n (S ||| 2 ^ i)) x.toNat))), none, none, some (.inl x8), some (.inl x)] m Q := by
        refine dn ?_ ?_
        · intro _
          have oT := or_lt' hS h1
          have wj := WY_b hT oT
          have cj := c.2 j h1
          have sj := sw_le (P := may B S) (g := fun i => WY B n (S ||| 2 ^ i)) (N := n) g0 j 0 (by omega)
          have s0 : sw (may B S) (fun i => WY B n (S ||| 2 ^ i)) 0 = 0 := rfl
          rw [Nat.zero_add] at sj
          refine sg_X8_order_66 (by omega) ?_
          rw [xorI_i t1 hS h1, show (Int.toNat (j : Int)) = j by omega]
          refine M_mayCome hT c hS h1 (fun hm => ⟨by omega, by omega, ?_⟩) (fun hm => by rw [h2] at hm; cases hm)
          rw [(hH.1 rfl _ (by omega) oT).1]
          refine ⟨⟨by unfold inL; omega, by unfold inL; omega⟩, fun _ => ⟨by omega, by omega, ?_⟩, fun z => absurd z (by omega)⟩
          rw [cj.1]
          exact ih (x8 + 1) (S ||| 2 ^ j) _ (L j) (by omega) (by omega) oT (by omega) h5
        · intro x hx ihx x0'
          obtain ⟨I, eI⟩ : ∃ I : Nat, x = I := ⟨x.toNat, by omega⟩
          subst eI
          have ihx := ihx (by omega)
          rw [show ((I : Int) + 1).toNat = I + 1 by omega] at ihx
          have oT := or_lt' hS (i := I) (by omega)
          have wj := WY_b hT oT
          have sI := sw_le (P := may B S) (g := fun i => WY B n (S ||| 2 ^ i)) (N := n) g0 I 0 (by omega)
          have s0 : sw (may B S) (fun i => WY B n (S ||| 2 ^ i)) 0 = 0 := rfl
          rw [Nat.zero_add] at sI
          have sj := sw_le (P := may B S) (g := fun i => WY B n (S ||| 2 ^ i)) (N := n) g0 (j - (I + 1)) (I + 1) (by omega)
          rw [show I + 1 + (j - (I + 1)) = j by omega] at sj
          refine sg_X8_order_66 (by omega) ?_
          rw [xorI_i (i := I) t1 hS (by omega), show (Int.toNat (I : Int)) = I by omega]
          refine M_mayCome hT c hS (by omega) (fun hm => ⟨by omega, by omega, ?_⟩) (fun hm => ?_)
          · rw [sw_t hm] at ihx sj
            rw [(hH.1 rfl _ (by omega) oT).1]
            have sj : sw (may B S) (fun i => WY B n (S ||| 2 ^ i)) I + WY B n (S ||| 2 ^ I) ≤ sw (may B S) (fun i => WY B n (S ||| 2 ^ i)) j := sj
            refine ⟨⟨by unfold inL; omega, by unfold inL; omega⟩, fun z => absurd z (by omega), fun _ => M_mayCome hT c hS (by omega) (fun _ => ⟨by omega, by omega, ?_⟩) (fun hm2 => by rw [hm] at hm2; cases hm2)⟩
            rw [(hH.1 rfl _ (by omega) oT).1, show r - sw (may B S) (fun i => WY B n (S ||| 2 ^ i)) I - WY B n (S ||| 2 ^ I) = r - (sw (may B S) (fun i => WY B n (S ||| 2 ^ i)) I + WY B n (S ||| 2 ^ I)) by omega]
            exact ihx
          · rw [sw_f hm] at ihx
            exact M_mayCome hT c hS (by omega) (fun hm2 => by rw [hm] at hm2; cases hm2) (fun _ => ihx)
      have := inn 0 (by omega) (by omega)
      rw [show (0 : Int).toNat = 0 from rfl, show sw (may B S) (fun i => WY B n (S ||| 2 ^ i)) 0 = 0 from rfl, Int.sub_zero] at this
      exact this
  exact lp (i.toNat + 1) 0 0 k (-1) (by omega) (by omega) p0 (by omega) ho
theorem M_alongL {f i a : Int} {Q : Int → xH → Prop} (hd : 3 ≤ d) (hT : TH n B SL) (c : MT m n L SL B) (hH : HiT m B SL n 0 true) (hi : 0 ≤ i ∧ i < n) (hf : 0 ≤ f ∧ f ≤ 11) (ho : Al B SL n L (i.toNat + 1) 0 f (-1) a) (hq : Q a m) : gI wdM d mX8_along 61 [some (.inr (.inr 0)), some (.inl i), some (.inl f), some (.inl 0), some (.inl (-1)), some (.inl 0), none, none] m Q := by
  have t1 := hT.1
  have p0 := Nat.two_pow_pos n
  have p1 := p2_12 t1
  have lp : ∀ (t : Nat) (x5 : Int) (S : Nat) (f la : Int), (t : Int) + x5 = i + 1 → 0 ≤ x5 → S < 2 ^ n → 0 ≤ f ∧ f ≤ 11 → Al B SL n L t S f la a → gI wdM d mX8_along 61 [some (.inr (.inr 0)), some (.inl i), some (.inl f), some (.inl (S : Int)), some (.inl la), some (.inl x5), none, none] m Q := by
    intro t
    induction t with
    | zero =>
      intro x5 S f la e x0 hS hf ho
      have ho : a = la := ho
      rw [← ho]
      exact sg_X8_along_61 (by omega) ⟨⟨inI_s (by omega) (by omega), inI_s (by omega) (by omega)⟩, fun _ => hq, fun z => absurd z (by omega)⟩
    | succ t ih =>
      intro x5 S f la e x0 hS hf ho
      obtain ⟨j, g1, g2, g3, g4, g5⟩ := ho
      have lt := LT_b hT hS hf
      refine sg_X8_along_61 (by omega) ⟨⟨inI_s (by omega) (by omega), inI_s (by omega) (by omega)⟩, fun z => absurd z (by omega), fun _ => M_leastFrom (by omega) hT c hH hS hf ?_⟩
      have inn : ∀ x : Int, x ≤ j → 0 ≤ x → gI wdM d mX8_along 78 [some (.inr (.inr 0)), some (.inl i), some (.inl f), some (.inl (S : Int)), none, some (.inl x5), some (.inl (LT B SL n S f)), some (.inl x)] m Q := by
        refine dn ?_ ?_
        · intro _
          have oT := or_lt' hS g1
          have lb := lg1_b hT hS hf g1
          obtain ⟨c1, c2, c3, _⟩ := c.2 j g1
          refine sg_X8_along_78 (by omega) (M_mayCome hT c hS g1 (fun hm => M_farFrom (by omega) hT c hH hS g1 hf ?_) (fun hm => by rw [g2] at hm; cases hm))
          rw [xorI_i t1 hS g1, c1, c3]
          exact ⟨⟨inI_s (by omega) (by omega), inI_s (by omega) (by omega)⟩, fun _ => ⟨by omega, by omega, by omega, ih (x5 + 1) (S ||| 2 ^ j) (SL j) (L j) (by omega) (by omega) oT (hT.2.2.1 j g1) g5⟩, fun z => absurd g3 z⟩
        · intro x hx ihx x0'
          obtain ⟨I, eI⟩ : ∃ I : Nat, x = I := ⟨x.toNat, by omega⟩
          subst eI
          have ihx := ihx (by omega)
          have lb := lg1_b hT hS hf (i := I) (by omega)
          refine sg_X8_along_78 (by omega) (M_mayCome hT c hS (by omega) (fun hm => M_farFrom (by omega) hT c hH hS (by omega) hf ?_) (fun hm => ihx))
          exact ⟨⟨inI_s (by omega) (by omega), inI_s (by omega) (by omega)⟩, fun z => absurd z (g4 I (by omega) hm), fun _ => ihx⟩
      exact inn 0 (by omega) (by omega)
  exact lp (i.toNat + 1) 0 0 f (-1) (by omega) (by omega) p0 hf ho
end TE
