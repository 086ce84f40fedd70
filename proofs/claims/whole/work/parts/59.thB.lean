/-! lawful orders: the class -/
def CT (h : xH) (n : Nat) (L SL : Int → Int) (B : Nat → Nat) : Prop := h 32 0 = n ∧ ∀ j : Nat, j < n → h 33 j = L j ∧ h 34 j = SL j ∧ h 35 j = (B j : Int)
theorem CT.keep {h h' : xH} {n : Nat} {L SL : Int → Int} {B : Nat → Nat} {l : List Nat} (c : CT h n L SL B) (k : kp l h h') (hl : 32 ∉ l ∧ 33 ∉ l ∧ 34 ∉ l ∧ 35 ∉ l) : CT h' n L SL B := by
  unfold CT
  rw [k 32 hl.1, k 33 hl.2.1, k 34 hl.2.2.1, k 35 hl.2.2.2]
  exact c
theorem p2_12 {n : Nat} (h : n ≤ 12) : 2 ^ n ≤ 4096 := two_pow_le (n := 12) h
theorem lt_or {S i : Nat} (h : S.testBit i = false) : S < S ||| 2 ^ i := by
  refine Nat.lt_of_le_of_ne Nat.left_le_or (fun e => ?_)
  have := congrArg (fun x => Nat.testBit x i) e
  simp only [or_bit, h] at this
  simp at this
theorem xorI_i {S i n : Nat} (hn : n ≤ 12) (hS : S < 2 ^ n) (hi : i < n) : xorI (S : Int) (1 * 2 ^ (Int.toNat (i : Int))) = ((S ||| 2 ^ i : Nat) : Int) := by
  have := p2_12 hn
  rw [xorI_p (by omega) (by omega) (by omega), show ((i : Int)).toNat = i by omega]
section TA
variable {d n : Nat} {B : Nat → Nat} {L SL : Int → Int} {h : xH}
theorem C_comesNext {S i : Nat} {T F : xH → Prop} (hT : TH n B SL) (c : CT h n L SL B) (hS : S < 2 ^ n) (hi : i < n) (ht : may B S i = true → T h) (hf : may B S i = false → F h) : cB wdC d mX6_comesNext [.inr (.inr 32), .inl (S : Int), .inl (i : Int)] h T F := by
  have t1 := hT.1
  have p1 := p2_12 t1
  have b1 := hT.2.1 i hi
  have wl : wo (B i) S < 2 ^ 12 := wo_lt (by omega)
  have b01 := bti_01 S i
  refine sg_X6_comesNext_0 ?_
  rw [x_bitI (by omega) (by omega), show ((i : Int)).toNat = i by omega, (c.2 i hi).2.2, xandI_wo (by omega) (by omega)]
  refine ⟨⟨inI_s (by omega) (by omega), by omega, by omega⟩, inI_s (by omega) (by omega), fun z => Or.inr ⟨rfl, hf ?_⟩, fun z => ⟨by omega, inI_s (by omega) (by omega), fun y => Or.inr ⟨rfl, hf ?_⟩, fun y => Or.inl ⟨rfl, ht ?_⟩⟩⟩
  · unfold may
    unfold bti at z
    cases hb : S.testBit i with
    | true => rfl
    | false => rw [hb] at z; exact absurd rfl z
  · unfold may
    rw [decide_eq_false (by omega), Bool.and_false]
  · unfold may
    unfold bti at z
    cases hb : S.testBit i with
    | true => rw [hb] at z; exact absurd z (by decide)
    | false => rw [decide_eq_true (by omega)]; rfl
/-- the list of sets: which stands at which place, and where each is looked up -/
def FS (h : xH) (n : Nat) (B : Nat → Nat) (c : Nat) (σ : Nat → Nat) : Prop := h 32 5 = c ∧ (∀ q : Nat, q < c → h 36 q = (σ q : Int) ∧ σ q < 2 ^ n ∧ h 54 (σ q : Int) = q ∧ ID B n (σ q)) ∧ RG h
/-- only these cells are written, of the object's own fields the count alone -/
def KS (h h' : xH) : Prop := kp [32, 36, 54] h h' ∧ ∀ i, i ≠ 5 → h' 32 i = h 32 i
theorem KS.rf (h : xH) : KS h h := ⟨kp_rf _ _, fun _ _ => rfl⟩
theorem KS.tr {h h1 h2 : xH} (a : KS h h1) (b : KS h1 h2) : KS h h2 := ⟨kp_tr a.1 b.1, fun i hi => by rw [b.2 i hi, a.2 i hi]⟩
theorem CT.keepS {h' : xH} (c : CT h n L SL B) (k : KS h h') : CT h' n L SL B := by
  unfold CT
  rw [k.2 0 (by decide), k.1 33 (by decide), k.1 34 (by decide), k.1 35 (by decide)]
  exact c
theorem FS.inj {c : Nat} {σ : Nat → Nat} (F : FS h n B c σ) {q r : Nat} (hq : q < c) (hr : r < c) (e : σ q = σ r) : q = r := by
  have a := (F.2.1 q hq).2.2.1
  have b := (F.2.1 r hr).2.2.1
  rw [e] at a
  omega
theorem FS.le {c : Nat} {σ : Nat → Nat} (hT : TH n B SL) (F : FS h n B c σ) : c ≤ 729 := ID_le hT (fun q hq => ⟨(F.2.1 q hq).2.1, (F.2.1 q hq).2.2.2⟩) (fun _ _ hq hr e => F.inj hq hr e)
theorem FS.lt {c : Nat} {σ : Nat → Nat} (hT : TH n B SL) (F : FS h n B c σ) {T : Nat} (hTl : T < 2 ^ n) (hI : ID B n T) (hn : ∀ q, q < c → σ q ≠ T) : c < 729 := by
  have := ID_le hT (c := c + 1) (σ := fun q => if q = c then T else σ q) (fun q hq => ?_) (fun q r hq hr e => ?_)
  · omega
  · show (if q = c then T else σ q) < 2 ^ n ∧ ID B n (if q = c then T else σ q)
    by_cases y : q = c
    · rw [if_pos y]; exact ⟨hTl, hI⟩
    · rw [if_neg y]
      have := F.2.1 q (by omega)
      exact ⟨this.2.1, this.2.2.2⟩
  · have e : (if q = c then T else σ q) = (if r = c then T else σ r) := e
    by_cases y : q = c
    · rw [if_pos y] at e
      by_cases z : r = c
      · omega
      · rw [if_neg z] at e
        exact absurd e.symm (hn r (by omega))
    · rw [if_neg y] at e
      by_cases z : r = c
      · rw [if_pos z] at e
        exact absurd e (hn q (by omega))
      · rw [if_neg z] at e
        exact F.inj (by omega) (by omega) e
theorem C_addSet {c T : Nat} {σ : Nat → Nat} {Q : xH → Prop} (hT : TH n B SL) (F : FS h n B c σ) (hTl : T < 2 ^ n) (hI : ID B n T) (hq1 : ∀ q, q < c → σ q = T → Q h)
    (hq2 : (∀ q, q < c → σ q ≠ T) → ∀ (h' : xH) (σ' : Nat → Nat), KS h h' → (∀ q, q < c → σ' q = σ q) → σ' c = T → FS h' n B (c + 1) σ' → Q h') : cV wdC d mX6_addSet [.inr (.inr 32), .inl (T : Int)] h Q := by
  have t1 := hT.1
  have p1 := p2_12 t1
  have cl := F.le hT
  obtain ⟨f1, f2, f3⟩ := id F
  have g := f3 T (by omega) (by omega)
  have new : (∀ q, q < c → σ q ≠ T) → (h 32 5 < 729 → (0 ≤ (T : Int) ∧ (T : Int) < 4096) ∧ (0 ≤ h 32 5 ∧ h 32 5 < 729) ∧ Q (xu (xu (xu h 54 T (h 32 5)) 36 (h 32 5) T) 32 5 (h 32 5 + 1))) ∧ (729 ≤ h 32 5 → Q h) := by
    intro hn
    have lt := F.lt hT hTl hI hn
    rw [f1]
    refine ⟨fun _ => ⟨by omega, by omega, ?_⟩, fun z => absurd z (by omega)⟩
    obtain ⟨σ', es, ec⟩ : ∃ σ' : Nat → Nat, (∀ q, q < c → σ' q = σ q) ∧ σ' c = T := ⟨fun q => if q = c then T else σ q, fun q hq => if_neg (by omega), if_pos rfl⟩
    refine hq2 hn _ σ' ⟨kp_tr (kp_tr (kp_xu (by decide)) (kp_xu (by decide))) (kp_xu (by decide)), fun i hi => ?_⟩ es ec ⟨?_, fun q hq => ?_, fun S a b => ?_⟩
    · simp (disch := omega) only [xu_cn, xu_ne]
    · rw [xu_eq]; omega
    · by_cases y : q = c
      · rw [y, ec]
        refine ⟨?_, hTl, ?_, hI⟩
        · simp (disch := omega) only [xu_cn, xu_eq]
        · simp (disch := omega) only [xu_cn, xu_eq]
      · have e := f2 q (by omega)
        have nq := hn q (by omega)
        rw [es q (by omega)]
        refine ⟨?_, e.2.1, ?_, e.2.2.2⟩
        · simp (disch := omega) only [xu_cn, xu_ne]
          exact e.1
        · simp (disch := omega) only [xu_cn, xu_ne]
          exact e.2.2.1
    · simp (disch := omega) only [xu_cn]
      by_cases y : S = T
      · rw [y, xu_eq]; omega
      · rw [xu_ne y]; exact f3 S a b
  refine sg_X6_addSet_0 ⟨by omega, ⟨inI_s (by omega) (by omega), inI_s (by omega) (by omega)⟩, fun z => ⟨inI_s (by omega) (by omega), new (fun q hq e => ?_)⟩, fun z => ⟨by omega, by omega, ?_⟩⟩
  · have := (f2 q hq).2.2.1
    rw [e] at this
    omega
  · obtain ⟨r, er⟩ : ∃ r : Nat, h 54 T = r := ⟨(h 54 T).toNat, by omega⟩
    have fr := f2 r (by omega)
    rw [er, fr.1]
    have p2 := fr.2.1
    refine ⟨⟨inI_s (by omega) (by omega), inI_s (by omega) (by omega)⟩, fun y => ⟨inI_s (by omega) (by omega), new (fun q hq e => ?_)⟩, fun y => hq1 r (by omega) (by omega)⟩
    have := (f2 q hq).2.2.1
    rw [e, er] at this
    have : r = q := by omega
    rw [this, e] at y
    exact y rfl
/-- all sets that come up, each behind those that it holds -/
def MK (h : xH) (n : Nat) (B : Nat → Nat) (c : Nat) (σ : Nat → Nat) : Prop := FS h n B c σ ∧ (1 ≤ c ∧ c ≤ 729) ∧ σ 0 = 0 ∧ zc (σ (c - 1)) n = 0 ∧ ∀ q i : Nat, q < c → i < n → may B (σ q) i = true → ∃ r, q < r ∧ r < c ∧ σ r = σ q ||| 2 ^ i
theorem MK.keep {h' : xH} {c : Nat} {σ : Nat → Nat} {l : List Nat} (M : MK h n B c σ) (k : kp l h h') (hl : 32 ∉ l ∧ 36 ∉ l ∧ 54 ∉ l) : MK h' n B c σ := by
  unfold MK FS RG
  rw [k 32 hl.1, k 36 hl.2.1, k 54 hl.2.2]
  exact M
theorem C_findSets {Q : xH → Prop} (hd : 1 ≤ d) (hT : TH n B SL) (ct : CT h n L SL B) (g : RG h) (hq : ∀ (h' : xH) (c : Nat) (σ : Nat → Nat), KS h h' → MK h' n B c σ → Q h') : cV wdC d mX6_findSets [.inr (.inr 32)] h Q := by
  have t1 := hT.1
  have p0 := Nat.two_pow_pos n
  have p1 := p2_12 t1
  have rows : ∀ (t p : Nat), t + p = 729 → ∀ (h1 : xH) (c : Nat) (σ : Nat → Nat), KS h h1 → FS h1 n B c σ → 1 ≤ c → σ 0 = 0 → p ≤ c → (∀ q r : Nat, q ≤ r → r < c → zc (σ r) n ≤ zc (σ q) n) → (p < c → ∀ q : Nat, q < c → zc (σ p) n ≤ zc (σ q) n + 1) → (∀ q i : Nat, q < p → i < n → may B (σ q) i = true → ∃ r, q < r ∧ r < c ∧ σ r = σ q ||| 2 ^ i) → gV wdC d mX6_findSets 12 [some (.inr (.inr 32)), some (.inl (p : Int)), none] h1 Q := by
    intro t
    have fin : ∀ (p : Nat) (h1 : xH) (c : Nat) (σ : Nat → Nat), p = c → KS h h1 → FS h1 n B c σ → 1 ≤ c → σ 0 = 0 → (∀ q i : Nat, q < p → i < n → may B (σ q) i = true → ∃ r, q < r ∧ r < c ∧ σ r = σ q ||| 2 ^ i) → gV wdC d mX6_findSets 12 [some (.inr (.inr 32)), some (.inl (p : Int)), none] h1 Q := by
      intro p h1 c σ e k F c1 s0 cl
      have cle := F.le hT
      refine sg_X6_findSets_12 ?_
      rw [F.1]
      refine ⟨⟨inI_s (by omega) (by omega), inI_s (by omega) (by omega)⟩, fun _ => hq h1 c σ k ⟨F, ⟨c1, cle⟩, s0, ?_, fun q i a b m => cl q i (by omega) b m⟩, fun z => absurd z (by omega)⟩
      apply Classical.byContradiction
      intro nz
      obtain ⟨i, i1, i2⟩ := may_ex hT nz
      obtain ⟨r, r1, r2, _⟩ := cl (c - 1) i (by omega) i1 i2
      omega
    induction t with
    | zero =>
      intro p hp h1 c σ k F c1 s0 pc mono near cl
      have cle := F.le hT
      exact fin p h1 c σ (by omega) k F c1 s0 cl
    | succ t ih =>
      intro p hp h1 c σ k F c1 s0 pc mono near cl
      have cle := F.le hT
      by_cases z : p = c
      · exact fin p h1 c σ z k F c1 s0 cl
      · have near := near (by omega)
        refine sg_X6_findSets_12 ?_
        rw [F.1]
        refine ⟨⟨inI_s (by omega) (by omega), inI_s (by omega) (by omega)⟩, fun z => absurd z (by omega), fun _ => ⟨inI_s (by omega) (by omega), fun z => absurd z (by omega), fun _ => ?_⟩⟩
        have inn : ∀ (u i : Nat), u + i = n → ∀ (h2 : xH) (c : Nat) (σ : Nat → Nat), KS h h2 → FS h2 n B c σ → p < c → σ 0 = 0 → (∀ q r : Nat, q ≤ r → r < c → zc (σ r) n ≤ zc (σ q) n) → (∀ q : Nat, q < c → zc (σ p) n ≤ zc (σ q) n + 1) → (∀ q i : Nat, q < p → i < n → may B (σ q) i = true → ∃ r, q < r ∧ r < c ∧ σ r = σ q ||| 2 ^ i) → (∀ j : Nat, j < i → may B (σ p) j = true → ∃ r, p < r ∧ r < c ∧ σ r = σ p ||| 2 ^ j) → gV wdC d mX6_findSets 29 [some (.inr (.inr 32)), some (.inl (p : Int)), some (.inl (i : Int))] h2 Q := by
          intro u
          induction u with
          | zero =>
            intro i hi h2 c σ k F pc s0 mono near cl clp
            have cle := F.le hT
            refine sg_X6_findSets_29 hd ?_
            rw [(ct.keepS k).1]
            refine ⟨⟨inI_s (by omega) (by omega), inI_s (by omega) (by omega)⟩, fun _ => ?_, fun z => absurd z (by omega)⟩
            rw [show (p : Int) + 1 = ((p + 1 : Nat) : Int) by omega]
            refine ih (p + 1) (by omega) h2 c σ k F (by omega) s0 (by omega) mono (fun y q hq => ?_) (fun q j a b m => ?_)
            · have := mono p (p + 1) (by omega) y
              have := near q hq
              omega
            · by_cases y : q = p
              · rw [y] at m ⊢
                exact clp j (by omega) m
              · exact cl q j (by omega) b m
          | succ u ihu =>
            intro i hi h2 c σ k F pc s0 mono near cl clp
            have cle := F.le hT
            have fp := F.2.1 p pc
            have oT := or_lt' fp.2.1 (i := i) (by omega)
            have nx := ihu (i + 1) (by omega)
            rw [show ((i + 1 : Nat) : Int) = (i : Int) + 1 by omega] at nx
            refine sg_X6_findSets_29 hd ?_
            rw [(ct.keepS k).1, fp.1]
            refine ⟨⟨inI_s (by omega) (by omega), inI_s (by omega) (by omega)⟩, fun z => absurd z (by omega), fun _ => ⟨by omega, C_comesNext hT (ct.keepS k) fp.2.1 (by omega) (fun hm => ⟨by omega, by omega, ?_⟩) (fun hm => ?_)⟩⟩
            · have zz := (zc_or (may_t hm).1 n).1 (by omega)
              rw [fp.1, xorI_i (i := i) t1 fp.2.1 (by omega)]
              refine C_addSet hT F oT (ID_or fp.2.2.2 hm) (fun q hq e => ?_) (fun nw h3 σ' k3 es ec F3 => ?_)
              · refine nx h2 c σ k F pc s0 mono near cl (fun j hj m => ?_)
                by_cases y : j = i
                · refine ⟨q, ?_, hq, by rw [y]; exact e⟩
                  rcases Nat.lt_or_ge p q with w | w
                  · exact w
                  · have := mono q p w pc
                    rw [e] at this
                    omega
                · exact clp j (by omega) m
              · have ep := es p pc
                refine nx h3 (c + 1) σ' (k.tr k3) F3 (by omega) (by rw [es 0 (by omega)]; exact s0) (fun q r qr hr => ?_) (fun q hq => ?_) (fun q j a b m => ?_) (fun j hj m => ?_)
                · by_cases y : r = c
                  · by_cases w : q = c
                    · rw [y, w]; exact Nat.le_refl _
                    · rw [y, ec, es q (by omega)]
                      have := near q (by omega)
                      omega
                  · rw [es r (by omega), es q (by omega)]
                    exact mono q r qr (by omega)
                · rw [ep]
                  by_cases w : q = c
                  · rw [w, ec]; omega
                  · rw [es q (by omega)]
                    exact near q (by omega)
                · rw [es q (by omega)] at m ⊢
                  obtain ⟨r, r1, r2, r3⟩ := cl q j a b m
                  exact ⟨r, r1, by omega, by rw [es r r2]; exact r3⟩
                · rw [ep] at m ⊢
                  by_cases y : j = i
                  · exact ⟨c, pc, by omega, by rw [ec, y]⟩
                  · obtain ⟨r, r1, r2, r3⟩ := clp j (by omega) m
                    exact ⟨r, r1, by omega, by rw [es r r2]; exact r3⟩
            · refine nx h2 c σ k F pc s0 mono near cl (fun j hj m => ?_)
              by_cases y : j = i
              · rw [y, hm] at m; cases m
              · exact clp j (by omega) m
        exact inn n 0 (by omega) h1 c σ k F (by omega) s0 mono near cl (fun j hj => by omega)
  have F0 : FS (xu h 32 5 0) n B 0 (fun _ => 0) := ⟨by rw [xu_eq]; rfl, fun q hq => by omega, g.congr (by funext i; rw [xu_cn (by decide)])⟩
  have k0 : KS h (xu h 32 5 0) := ⟨kp_xu (by decide), fun i hi => by rw [xu_ne hi]⟩
  refine sg_X6_findSets_0 hd (C_addSet (T := 0) hT F0 p0 (ID_0 B n) (fun q hq => by omega) (fun _ h1 σ k1 _ e1 F1 => ?_))
  refine rows 729 0 (by omega) h1 1 σ (k0.tr k1) F1 (by omega) e1 (by omega) (fun q r a b => ?_) (fun _ q hq => ?_) (fun q i hq => by omega)
  · have : q = r := by omega
    rw [this]
    exact Nat.le_refl _
  · have : q = 0 := by omega
    rw [this]
    omega
/-- ways, of sets of the list -/
def WT (h : xH) (n : Nat) (B : Nat → Nat) (c : Nat) (σ : Nat → Nat) (j : Nat) : Prop := ∀ q : Nat, j ≤ q → q < c → h 37 q = WY B n (σ q)
theorem C_waysBy {S i r c : Nat} {σ : Nat → Nat} {Q : Int → xH → Prop} (hT : TH n B SL) (hM : MK h n B c σ) (hS : S < 2 ^ n) (hi : i < n) (hr : r < c) (e : σ r = S ||| 2 ^ i) (hq : Q (h 37 r) h) : cL wdC d mX6_waysBy [.inr (.inr 32), .inl (S : Int), .inl (i : Int)] h Q := by
  have t1 := hT.1
  have p1 := p2_12 t1
  have oT := or_lt' hS hi
  have f := (hM.1.2.1 r hr).2.2.1
  have c7 := hM.2.1
  rw [e] at f
  refine sg_X6_waysBy_0 ?_
  rw [xorI_i t1 hS hi, f]
  exact ⟨by omega, by omega, by omega, hq⟩
theorem C_lawfulOrders {c : Nat} {σ : Nat → Nat} {Q : Int → xH → Prop} (hd : 1 ≤ d) (hT : TH n B SL) (ct : CT h n L SL B) (hM : MK h n B c σ) (hl : h 32 1 = 1) (hq : ∀ h', kp [37] h h' → WT h' n B c σ 0 → Q (WY B n 0) h') : cL wdC d mX6_lawfulOrders [.inr (.inr 32)] h Q := by
  have t1 := hT.1
  have p1 := p2_12 t1
  have kC : ∀ h1, kp [37] h h1 → CT h1 n L SL B := fun h1 k => ct.keep k (by decide)
  have kM : ∀ h1, kp [37] h h1 → MK h1 n B c σ := fun h1 k => hM.keep k (by decide)
  obtain ⟨F, ⟨c1, c7⟩, s0, sl, cl⟩ := id hM
  have rows : ∀ j : Nat, j < c → ∀ h1 : xH, kp [37] h h1 → WT h1 n B c σ j → gL wdC d mX6_lawfulOrders 28 [some (.inr (.inr 32)), some (.inl ((j : Int) - 1)), none, none, none] h1 Q := by
    intro j
    induction j with
    | zero =>
      intro _ h1 k hW
      refine sg_X6_lawfulOrders_28 ⟨inI_s (by omega) (by omega), fun _ => ?_, fun z => absurd z (by omega)⟩
      have e := hW 0 (by omega) (by omega)
      rw [s0] at e
      have e : h1 37 0 = WY B n 0 := e
      rw [e]
      exact hq h1 k hW
    | succ j ih =>
      intro hj h1 k hW
      rw [show ((j + 1 : Nat) : Int) - 1 = (j : Int) by omega]
      have fj := F.2.1 j (by omega)
      have e36 : h1 36 = h 36 := k 36 (by decide)
      have hz : zc (σ j) n ≠ 0 := fun y => by
        have a := (full_iff fj.2.1).mpr y
        have b := (full_iff (F.2.1 (c - 1) (by omega)).2.1).mpr sl
        have := F.inj (q := j) (r := c - 1) (by omega) (by omega) (by rw [a, b])
        omega
      have inn : ∀ i : Int, i ≤ n → 0 ≤ i → gL wdC d mX6_lawfulOrders 37 [some (.inr (.inr 32)), some (.inl (j : Int)), some (.inr (.inl (sw (may B (σ j)) (fun i => WY B n (σ j ||| 2 ^ i)) i.toNat))), none, some (.inl i)] h1 Q := by
        refine dn ?_ ?_
        · intro _
          refine sg_X6_lawfulOrders_37 hd ?_
          rw [(kC h1 k).1]
          refine ⟨⟨inI_s (by omega) (by omega), inI_s (by omega) (by omega)⟩, fun _ => ⟨by omega, ?_⟩, fun z => absurd z (by omega)⟩
          rw [show (Int.toNat (n : Int)) = n by omega, ← WY_st hz, show (j : Int) + (-1) = (j : Int) - 1 by omega]
          refine ih (by omega) _ (kp_tr k (kp_xu (by decide))) (fun q a b => ?_)
          by_cases y : q = j
          · rw [y, xu_eq]
          · rw [xu_ne (by omega)]; exact hW q (by omega) b
        · intro i hi ihi i0
          obtain ⟨I, eI⟩ : ∃ I : Nat, i = I := ⟨i.toNat, by omega⟩
          subst eI
          have ihi := ihi (by omega)
          rw [show ((I : Int) + 1).toNat = I + 1 by omega] at ihi
          refine sg_X6_lawfulOrders_37 hd ?_
          rw [(kC h1 k).1, e36, fj.1, show (Int.toNat (I : Int)) = I by omega]
          refine ⟨⟨inI_s (by omega) (by omega), inI_s (by omega) (by omega)⟩, fun z => absurd z (by omega), fun _ => ⟨by omega, C_comesNext hT (kC h1 k) fj.2.1 (by omega) (fun hm => ⟨by omega, ?_⟩) (fun hm => ?_)⟩⟩
          · obtain ⟨r, r1, r2, r3⟩ := cl j I (by omega) (by omega) hm
            rw [e36, fj.1]
            refine C_waysBy hT (kM h1 k) fj.2.1 (by omega) r2 r3 ?_
            rw [hW r (by omega) r2, r3]
            rw [sw_t hm] at ihi
            exact ihi
          · rw [sw_f hm] at ihi
            exact ihi
      refine sg_X6_lawfulOrders_28 ⟨inI_s (by omega) (by omega), fun z => absurd z (by omega), fun _ => ?_⟩
      exact inn 0 (by omega) (by omega)
  refine sg_X6_lawfulOrders_0 ?_
  rw [hl, F.1]
  refine ⟨inI_s (by omega) (by omega), fun _ => ⟨by omega, ?_⟩, fun z => absurd z (by omega)⟩
  rw [show (c : Int) - 2 = ((c - 1 : Nat) : Int) - 1 by omega]
  refine rows (c - 1) (by omega) _ (kp_xu (by decide)) (fun q a b => ?_)
  have : q = c - 1 := by omega
  rw [this, show (c : Int) - 1 = ((c - 1 : Nat) : Int) by omega, xu_eq, WY_full sl]
theorem C_lawfulOrders0 {Q : Int → xH → Prop} (hl : h 32 1 = 0) (hq : Q 0 h) : cL wdC d mX6_lawfulOrders [.inr (.inr 32)] h Q := by
  refine sg_X6_lawfulOrders_0 ?_
  rw [hl]
  exact ⟨inI_s (by omega) (by omega), fun z => absurd rfl z, fun _ => hq⟩
theorem C_pinOfOrder {k i a : Int} {cn : Nat} {σ : Nat → Nat} {Q : Int → xH → Prop} (hd : 1 ≤ d) (hT : TH n B SL) (c : CT h n L SL B) (hM : MK h n B cn σ) (hW : WT h n B cn σ 0) (hi : 0 ≤ i ∧ i < n) (hk : 0 ≤ k ∧ k < WY B n 0) (ho : Od B n L (i.toNat + 1) 0 k (-1) a) (hq : Q a h) : cI wdC d mX6_pinOfOrder [.inr (.inr 32), .inr (.inl k), .inl i] h Q := by
  have t1 := hT.1
  have p0 := Nat.two_pow_pos n
  have p1 := p2_12 t1
  have w0 := WY_b hT p0
  obtain ⟨F, ⟨c1, c7⟩, s0, sl, cl⟩ := id hM
  have lp : ∀ (t : Nat) (x6 : Int) (S l : Nat) (r la : Int), (t : Int) + x6 = i + 1 → 0 ≤ x6 → S < 2 ^ n → (∃ q, q < cn ∧ σ q = S) → l < n → 0 ≤ r ∧ r ≤ k → (x6 ≠ 0 → la = L l) → (t = 0 → x6 ≠ 0) → Od B n L t S r la a → gI wdC d mX6_pinOfOrder 9 [some (.inr (.inr 32)), some (.inr (.inl r)), none, some (.inl i), some (.inl (S : Int)), some (.inl (l : Int)), some (.inl x6), none, none, none] h Q := by
    intro t
    induction t with
    | zero =>
      intro x6 S l r la e x0 hS hm hl hr hla h0 ho
      refine sg_X6_pinOfOrder_9 ⟨⟨inI_s (by omega) (by omega), inI_s (by omega) (by omega)⟩, fun _ => ⟨by omega, ?_⟩, fun z => absurd z (by omega)⟩
      have ho : a = la := ho
      rw [(c.2 l hl).1, ← hla (h0 rfl), ← ho]
      exact hq
    | succ t ih =>
      intro x6 S l r la e x0 hS hm hl hr hla h0 ho
      obtain ⟨j, h1, h2, h3, h4, h5⟩ := ho
      refine sg_X6_pinOfOrder_9 ⟨⟨inI_s (by omega) (by omega), inI_s (by omega) (by omega)⟩, fun z => absurd z (by omega), fun _ => ?_⟩
      have g0 : ∀ i, i < n → may B S i = true → 0 ≤ (fun i => WY B n (S ||| 2 ^ i)) i := fun i hi _ => by
        have := WY_b hT (or_lt' hS hi)
        show (0 : Int) ≤ WY B n (S ||| 2 ^ i)
        omega
      have inn : ∀ x : Int, x ≤ j → 0 ≤ x → ∀ l' : Nat, l' < n → gI wdC d mX6_pinOfOrder 18 [some (.inr (.inr 32)), some (.inr (.inl (r - sw (may B S) (fun i => WY B n (S ||| 2 ^ i)) x.toNat))), none, some (.inl i), some (.inl (S : Int)), some (.inl (l' : Int)), some (.inl x6), some (.inl x), none, none] h Q := by
        refine dn ?_ ?_
        · intro _ l' hl'
          have oT := or_lt' hS h1
          have wj := WY_b hT oT
          have sj := sw_le (P := may B S) (g := fun i => WY B n (S ||| 2 ^ i)) (N := n) g0 j 0 (by omega)
          have s0 : sw (may B S) (fun i => WY B n (S ||| 2 ^ i)) 0 = 0 := rfl
          rw [Nat.zero_add] at sj
          refine sg_X6_pinOfOrder_18 hd ?_
          rw [c.1, xorI_i t1 hS h1, show (Int.toNat (j : Int)) = j by omega]
          refine ⟨⟨inI_s (by omega) (by omega), inI_s (by omega) (by omega)⟩, fun z => absurd z (by omega), fun _ => C_comesNext hT c hS h1 (fun hm2 => ?_) (fun hm2 => by rw [h2] at hm2; cases hm2)⟩
          obtain ⟨q0, q1, q2⟩ := hm
          obtain ⟨r1, r2, r3, r4⟩ := cl q0 j q1 h1 (by rw [q2]; exact h2)
          rw [q2] at r4
          refine C_waysBy hT hM hS h1 r3 r4 ?_
          rw [hW r1 (by omega) r3, r4]
          refine ⟨⟨by unfold inL; omega, by unfold inL; omega⟩, fun z => absurd z (by omega), fun _ => ⟨by omega, ?_⟩⟩
          exact ih (x6 + 1) (S ||| 2 ^ j) j _ (L j) (by omega) (by omega) oT ⟨r1, r3, r4⟩ h1 (by omega) (fun _ => rfl) (fun _ => by omega) h5
        · intro x hx ihx x0' l' hl'
          obtain ⟨I, eI⟩ : ∃ I : Nat, x = I := ⟨x.toNat, by omega⟩
          subst eI
          have ihx := ihx (by omega)
          rw [show ((I : Int) + 1).toNat = I + 1 by omega] at ihx
          have oT := or_lt' hS (i := I) (by omega)
          have wj := WY_b hT oT
          have sI := sw_le (P := may B S) (g := fun i => WY B n (S ||| 2 ^ i)) (N := n) g0 I 0 (by omega)
          have s0 : sw (may B S) (fun i => WY B n (S ||| 2 ^ i)) 0 = 0 := rfl
          rw [Nat.zero_add] at sI
          have sj := sw_le (P := may B S) (g := fun i => WY B n (S ||| 2 ^ i)) (N := n) g0 (j - (I + 1)) (I + 1) (by omega)
          rw [show I + 1 + (j - (I + 1)) = j by omega] at sj
          refine sg_X6_pinOfOrder_18 hd ?_
          rw [c.1, show (Int.toNat (I : Int)) = I by omega]
          refine ⟨⟨inI_s (by omega) (by omega), inI_s (by omega) (by omega)⟩, fun z => absurd z (by omega), fun _ => C_comesNext hT c hS (by omega) (fun hm2 => ?_) (fun hm2 => ?_)⟩
          · obtain ⟨q0, q1, q2⟩ := hm
            obtain ⟨r1, r2, r3, r4⟩ := cl q0 I q1 (by omega) (by rw [q2]; exact hm2)
            rw [q2] at r4
            rw [sw_t hm2] at ihx sj
            refine C_waysBy hT hM hS (by omega) r3 r4 ?_
            rw [hW r1 (by omega) r3, r4]
            have sj : sw (may B S) (fun i => WY B n (S ||| 2 ^ i)) I + WY B n (S ||| 2 ^ I) ≤ sw (may B S) (fun i => WY B n (S ||| 2 ^ i)) j := sj
            refine ⟨⟨by unfold inL; omega, by unfold inL; omega⟩, fun z => ?_, fun z => absurd z (by omega)⟩
            rw [show r - sw (may B S) (fun i => WY B n (S ||| 2 ^ i)) I - WY B n (S ||| 2 ^ I) = r - (sw (may B S) (fun i => WY B n (S ||| 2 ^ i)) I + WY B n (S ||| 2 ^ I)) by omega]
            exact ihx I (by omega)
          · rw [sw_f hm2] at ihx
            exact ihx l' hl'
      have := inn 0 (by omega) (by omega) l hl
      rw [show (0 : Int).toNat = 0 from rfl, show sw (may B S) (fun i => WY B n (S ||| 2 ^ i)) 0 = 0 from rfl, Int.sub_zero] at this
      exact this
  refine sg_X6_pinOfOrder_0 ?_
  exact lp (i.toNat + 1) 0 0 0 k (-1) (by omega) (by omega) p0 ⟨0, by omega, s0⟩ (by omega) (by omega) (fun z => absurd rfl z) (fun z => by omega) ho
end TA
