/-! the tape: the class reads -/
def TSt (h : xH) (T : Int → Int) (n p f : Int) : Prop := h 44 1 = n ∧ h 44 2 = p ∧ h 44 3 = f ∧ ∀ i, 0 ≤ i → i < n → h 45 i = T i
def TF (h h' : xH) : Prop := kp [44] h h' ∧ ∀ i, i ≠ 2 → i ≠ 3 → h' 44 i = h 44 i
def TBy (T : Int → Int) (n : Int) : Prop := (0 ≤ n ∧ n ≤ 120) ∧ ∀ i, 0 ≤ i → i < n → 1 ≤ T i ∧ T i ≤ 127
theorem TF.rf (h : xH) : TF h h := ⟨kp_rf _ _, fun _ _ _ => rfl⟩
theorem TF.tr {h h1 h2 : xH} (a : TF h h1) (b : TF h1 h2) : TF h h2 := ⟨kp_tr a.1 b.1, fun i x y => by rw [b.2 i x y, a.2 i x y]⟩
theorem TF.x2 (h : xH) (v : Int) : TF h (xu h 44 2 v) := ⟨kp_xu (by decide), fun i a b => xu_ne a⟩
theorem TF.x3 (h : xH) (v : Int) : TF h (xu h 44 3 v) := ⟨kp_xu (by decide), fun i a b => xu_ne b⟩
theorem TSt.upd {h h' : xH} {T : Int → Int} {n p f p' f' : Int} (s : TSt h T n p f) (t : TF h h') (e2 : h' 44 2 = p') (e3 : h' 44 3 = f') : TSt h' T n p' f' :=
  ⟨by rw [t.2 1 (by decide) (by decide)]; exact s.1, e2, e3, fun i a b => by rw [t.1 45 (by decide)]; exact s.2.2.2 i a b⟩
theorem TSt.oth {h : xH} {T : Int → Int} {n p f j v : Int} {c : Nat} (s : TSt h T n p f) (hc : 44 ≠ c ∧ 45 ≠ c) : TSt (xu h c j v) T n p f := by
  unfold TSt
  rw [xu_cn hc.1, xu_cn hc.1, xu_cn hc.1, xu_oth hc.2]
  exact s
section TG
variable {d : Nat} {T : Int → Int} {n p f : Int} {h : xH}
theorem C_expect {c : Int} {Q : xH → Prop} (hc : 0 ≤ c ∧ c ≤ 127) (hT : TBy T n) (hs : TSt h T n p f) (hp : pf n p f) (hq : ∀ h', TF h h' → TSt h' T n (rX T n c p f).1 (rX T n c p f).2 → Q h') : cV wdC d mX5_expect [.inr (.inr 44), .inl c] h Q := by
  obtain ⟨s1, s2, s3, s4⟩ := id hs
  have t1 := hT.1
  unfold pf at hp
  refine sg_X5_expect_0 ?_
  rw [s1, s2, s3]
  refine ⟨inI_s (by omega) (by omega), fun z => ⟨⟨inI_s (by omega) (by omega), inI_s (by omega) (by omega)⟩, fun y => ?_, fun y => ?_⟩, fun z => ?_⟩
  · have e : rX T n c p f = (p, p) := by unfold rX; rw [if_neg (by omega), if_neg (by omega)]
    rw [e] at hq
    exact hq _ (TF.x3 h p) (hs.upd (TF.x3 h p) (by rw [xu_ne (by decide)]; exact s2) xu_eq)
  · have tb := hT.2 p (by omega) y
    rw [s4 p (by omega) y]
    refine ⟨by omega, ⟨inI_s (by omega) (by omega), inI_s (by omega) (by omega)⟩, fun x => ?_, fun x => ?_⟩
    · have e : rX T n c p f = (p, p) := by unfold rX; rw [if_neg (by omega), if_neg (fun w => x w.2)]
      rw [e] at hq
      exact hq _ (TF.x3 h p) (hs.upd (TF.x3 h p) (by rw [xu_ne (by decide)]; exact s2) xu_eq)
    · have e : rX T n c p f = (p + 1, f) := by unfold rX; rw [if_neg (by omega), if_pos ⟨y, x⟩]
      rw [e] at hq
      exact hq _ (TF.x2 h (p + 1)) (hs.upd (TF.x2 h (p + 1)) xu_eq (by rw [xu_ne (by decide)]; exact s3))
  · have e : rX T n c p f = (p, f) := by unfold rX; rw [if_pos z]
    rw [e] at hq
    exact hq h (TF.rf h) hs
theorem C_skipWord {Q : xH → Prop} (hT : TBy T n) : ∀ (k : Nat) (p : Int) (h : xH), TSt h T n p f → 0 ≤ p → p + k = n → (∀ h', TF h h' → TSt h' T n (sk T n p) f → Q h') → cV wdC d mX5_skipWord [.inr (.inr 44)] h Q := by
  have t1 := hT.1
  intro k
  induction k with
  | zero =>
    intro p h hs h0 hp hq
    obtain ⟨s1, s2, s3, s4⟩ := id hs
    have e : isL T n p = false := decide_eq_false (fun z => by omega)
    rw [sk_f e] at hq
    refine sg_X5_skipWord_0 ?_
    rw [s1, s2]
    exact ⟨⟨inI_s (by omega) (by omega), inI_s (by omega) (by omega)⟩, fun _ => hq h (TF.rf h) hs, fun z => by omega⟩
  | succ k ih =>
    intro p h hs h0 hp hq
    obtain ⟨s1, s2, s3, s4⟩ := id hs
    have tb := hT.2 p h0 (by omega)
    refine sg_X5_skipWord_0 ?_
    rw [s1, s2, s4 p h0 (by omega)]
    refine ⟨⟨inI_s (by omega) (by omega), inI_s (by omega) (by omega)⟩, fun z => by omega, fun _ => ⟨by omega, inI_s (by omega) (by omega), fun y => ?_, fun y => ⟨by omega, inI_s (by omega) (by omega), fun x => ?_, fun x => ?_⟩⟩⟩
    · have e : isL T n p = false := decide_eq_false (fun z => by omega)
      rw [sk_f e] at hq
      exact hq h (TF.rf h) hs
    · have e : isL T n p = false := decide_eq_false (fun z => by omega)
      rw [sk_f e] at hq
      exact hq h (TF.rf h) hs
    · have e : isL T n p = true := decide_eq_true ⟨by omega, y, x⟩
      rw [sk_t e] at hq
      exact ih (p + 1) _ (hs.upd (TF.x2 h (p + 1)) xu_eq (by rw [xu_ne (by decide)]; exact s3)) (by omega) (by omega) (fun h' a b => hq h' ((TF.x2 h (p + 1)).tr a) b)
theorem C_isWord {i : Nat} {q : Int} {Tt F : xH → Prop} (hd : 4 ≤ d) (hi : i < 9) (hT : TBy T n) (hs : TSt h T n q f) (hp : 0 ≤ p ∧ p ≤ q) (hqn : q ≤ n) (ht : wdm T i p q = true → Tt h) (hf : wdm T i p q = false → F h) : cB wdC d mX5_isWord [.inr (.inr 44), .inl p, .inr (.inr (1000 + i))] h Tt F := by
  obtain ⟨s1, s2, s3, s4⟩ := id hs
  have t1 := hT.1
  have sl := slen_in hi
  refine sg_X5_isWord_0 hd hi ?_
  rw [s2]
  refine ⟨inI_s (by omega) (by omega), fun z => Or.inr ⟨rfl, hf (wdm_f1 z)⟩, fun z => ?_⟩
  have lp : ∀ x : Int, x ≤ slen i → 0 ≤ x → (∀ k : Nat, (k : Int) < x → T (p + k) = schr i k) → gI wdC d mX5_isWord 17 [some (.inr (.inr 44)), some (.inl p), some (.inr (.inr (1000 + i))), some (.inl x)] h (fun r h1 => (r = 1 ∧ Tt h1) ∨ (r = 0 ∧ F h1)) := by
    refine dn ?_ ?_
    · intro _ hk
      exact sg_X5_isWord_17 hd hi ⟨inI_s (by omega) (by omega), fun _ => Or.inl ⟨rfl, ht (wdm_mk z (fun k hk' => hk k (by omega)))⟩, fun y => by omega⟩
    · intro x hx ih x0 hk
      obtain ⟨X, eX⟩ : ∃ X : Nat, x = X := ⟨x.toNat, by omega⟩
      subst eX
      have tb := hT.2 (p + X) (by omega) (by omega)
      refine sg_X5_isWord_17 hd hi ⟨inI_s (by omega) (by omega), fun y => by omega, fun _ => ?_⟩
      rw [s4 (p + X) (by omega) (by omega)]
      refine ⟨by omega, by omega, inI_s (by omega) (by omega), fun y => Or.inr ⟨rfl, hf (wdm_f2 X (by omega) y)⟩, fun y => ih (by omega) (fun k hk' => ?_)⟩
      by_cases w : k = X
      · rw [w]; exact y
      · exact hk k (by omega)
  exact lp 0 (by omega) (by omega) (fun k hk => by omega)
theorem C_readKind {Q : Int → xH → Prop} (hd : 5 ≤ d) (hT : TBy T n) (hs : TSt h T n p (-1)) (hp : 0 ≤ p ∧ p ≤ n) (hq : ∀ h', TF h h' → TSt h' T n (rK T n p).1 (rK T n p).2.1 → Q (rK T n p).2.2 h') : cI wdC d mX5_readKind [.inr (.inr 44)] h Q := by
  have t1 := hT.1
  have skb := sk_b (T := T) hp.2
  refine sg_X5_readKind_0 (by omega) ?_
  rw [hs.2.1]
  refine C_skipWord hT (n - p).toNat p h hs hp.1 (by omega) (fun h1 k1 s1 => ?_)
  have at' : ∀ w : Nat, w < 4 → wdm T (0 + w) p (sk T n p) = true → (∀ v : Nat, v < w → wdm T (0 + v) p (sk T n p) = false) → Q w h1 := fun w hw a b => by
    have e := fw_at (b := 4) hw a b
    unfold rK at hq
    rw [e, if_neg (by omega)] at hq
    exact hq h1 k1 s1
  refine C_isWord (i := 0) (by omega) (by omega) hT s1 ⟨hp.1, skb.1⟩ skb.2 (fun b0 => at' 0 (by omega) b0 (fun v hv => by omega)) (fun b0 => ?_)
  refine C_isWord (i := 1) (by omega) (by omega) hT s1 ⟨hp.1, skb.1⟩ skb.2 (fun b1 => at' 1 (by omega) b1 (fun v hv => ?_)) (fun b1 => ?_)
  · rw [show v = 0 by omega]; exact b0
  refine C_isWord (i := 2) (by omega) (by omega) hT s1 ⟨hp.1, skb.1⟩ skb.2 (fun b2 => at' 2 (by omega) b2 (fun v hv => ?_)) (fun b2 => ?_)
  · rcases (show v = 0 ∨ v = 1 by omega) with z | z <;> rw [z]
    · exact b0
    · exact b1
  refine C_isWord (i := 3) (by omega) (by omega) hT s1 ⟨hp.1, skb.1⟩ skb.2 (fun b3 => at' 3 (by omega) b3 (fun v hv => ?_)) (fun b3 => ?_)
  · rcases (show v = 0 ∨ v = 1 ∨ v = 2 by omega) with z | z | z <;> rw [z]
    · exact b0
    · exact b1
    · exact b2
  have e : fw T p (sk T n p) 0 4 = -1 := fw_no (fun w hw => by
    rcases (show w = 0 ∨ w = 1 ∨ w = 2 ∨ w = 3 by omega) with z | z | z | z <;> rw [z]
    · exact b0
    · exact b1
    · exact b2
    · exact b3)
  unfold rK at hq
  rw [e, if_pos (by omega)] at hq
  exact hq _ (k1.tr (TF.x3 h1 p)) (s1.upd (TF.x3 h1 p) (by rw [xu_ne (by decide)]; exact s1.2.1) xu_eq)
theorem C_readStitch {Q : Int → xH → Prop} (hd : 5 ≤ d) (hT : TBy T n) (hs : TSt h T n p f) (hp : pf n p f) (hq : ∀ h', TF h h' → TSt h' T n (rS T n p f).1 (rS T n p f).2.1 → Q (rS T n p f).2.2 h') : cI wdC d mX5_readStitch [.inr (.inr 44)] h Q := by
  have t1 := hT.1
  have x := rX_pf (T := T) (c := 32) hp
  unfold rS at hq
  refine sg_X5_readStitch_0 (by omega) (C_expect (by omega) hT hs hp (fun h1 k1 s1 => ?_))
  generalize rX T n 32 p f = r at *
  obtain ⟨x1, x2, x3⟩ := x
  unfold pf at x1
  rw [s1.2.2.1]
  refine ⟨inI_s (by omega) (by omega), fun z => ?_, fun z => ?_⟩
  · rw [if_neg (by omega)] at hq
    have skb := sk_b (T := T) (n := n) (p := r.1) (by omega)
    refine C_skipWord hT (n - r.1).toNat r.1 h1 s1 (by omega) (by omega) (fun h2 k2 s2 => ?_)
    rw [s1.2.1]
    have lp : ∀ t : Int, t ≤ 5 → 0 ≤ t → (∀ v : Nat, (v : Int) < t → wdm T (4 + v) r.1 (sk T n r.1) = false) → gI wdC d mX5_readStitch 26 [some (.inr (.inr 44)), some (.inl r.1), some (.inl t)] h2 Q := by
      refine dn ?_ ?_
      · intro _ hv
        have e : fw T r.1 (sk T n r.1) 4 5 = -1 := fw_no (fun w hw => hv w (by omega))
        rw [e, if_pos (by omega)] at hq
        exact sg_X5_readStitch_26 (by omega) ⟨inI_s (by omega) (by omega), fun _ => hq _ ((k1.tr k2).tr (TF.x3 h2 r.1)) (s2.upd (TF.x3 h2 r.1) (by rw [xu_ne (by decide)]; exact s2.2.1) xu_eq), fun y => by omega⟩
      · intro t ht ih t0 hv
        obtain ⟨w, ew⟩ : ∃ w : Nat, t = w := ⟨t.toNat, by omega⟩
        subst ew
        have ih := ih (by omega)
        have go : cB wdC (d - 1) mX5_isWord [.inr (.inr 44), .inl r.1, .inr (.inr (1000 + (4 + w)))] h2 (fun h3 => Q w h3) (fun h3 => gI wdC d mX5_readStitch 26 [some (.inr (.inr 44)), some (.inl r.1), some (.inl ((w : Int) + 1))] h3 Q) := by
          refine C_isWord (i := 4 + w) (by omega) (by omega) hT s2 ⟨by omega, skb.1⟩ skb.2 (fun b => ?_) (fun b => ih (fun v hv' => ?_))
          · have e : fw T r.1 (sk T n r.1) 4 5 = w := fw_at (by omega) b (fun v hv' => hv v (by omega))
            rw [e, if_neg (by omega)] at hq
            exact hq h2 (k1.tr k2) (s2.upd (TF.rf h2) s2.2.1 s2.2.2.1)
          · by_cases y : v = w
            · rw [y]; exact b
            · exact hv v (by omega)
        refine sg_X5_readStitch_26 (by omega) ⟨inI_s (by omega) (by omega), fun y => by omega, fun _ => ?_⟩
        refine sg_X5_nameOf_0 ⟨inI_s (by omega) (by omega), fun y => ?_, fun y => ?_, fun y => ?_, fun y => ?_, fun y => ?_⟩
        · have : w = 0 := by omega
          subst this; exact go
        · have : w = 1 := by omega
          subst this; exact go
        · have : w = 2 := by omega
          subst this; exact go
        · have : w = 3 := by omega
          subst this; exact go
        · have : w = 4 := by omega
          subst this; exact go
    exact lp 0 (by omega) (by omega) (fun v hv => by omega)
  · rw [if_pos z] at hq
    exact hq h1 k1 s1
theorem C_isFigure {Tt F : xH → Prop} (hT : TBy T n) (hs : TSt h T n p f) (hp : 0 ≤ p ∧ p ≤ n) (ht : isD T n p = true → Tt h) (hf : isD T n p = false → F h) : cB wdC d mX5_isFigureHere [.inr (.inr 44)] h Tt F := by
  obtain ⟨s1, s2, s3, s4⟩ := id hs
  have t1 := hT.1
  refine sg_X5_isFigureHere_0 ?_
  rw [s1, s2]
  refine ⟨⟨inI_s (by omega) (by omega), inI_s (by omega) (by omega)⟩, fun z => Or.inr ⟨rfl, hf (decide_eq_false (fun y => by omega))⟩, fun z => ?_⟩
  have tb := hT.2 p hp.1 z
  rw [s4 p hp.1 z]
  exact ⟨by omega, inI_s (by omega) (by omega), fun y => Or.inr ⟨rfl, hf (decide_eq_false (fun w => by omega))⟩, fun y => ⟨by omega, inI_s (by omega) (by omega), fun x => Or.inr ⟨rfl, hf (decide_eq_false (fun w => by omega))⟩, fun x => Or.inl ⟨rfl, ht (decide_eq_true ⟨z, y, x⟩)⟩⟩⟩
theorem C_readFigure {Q : Int → xH → Prop} (hT : TBy T n) (hs : TSt h T n p f) (hp : 0 ≤ p ∧ p < n) (hq : ∀ h', TF h h' → TSt h' T n (p + 1) f → Q (T p - 48) h') : cI wdC d mX5_readFigure [.inr (.inr 44)] h Q := by
  obtain ⟨s1, s2, s3, s4⟩ := id hs
  have t1 := hT.1
  refine sg_X5_readFigure_0 ?_
  rw [s2, s4 p hp.1 hp.2]
  exact ⟨by omega, hq _ (TF.x2 h (p + 1)) (hs.upd (TF.x2 h (p + 1)) xu_eq (by rw [xu_ne (by decide)]; exact s3))⟩
theorem C_readNumber {Q : Int → xH → Prop} (hd : 1 ≤ d) (hT : TBy T n) (hs : TSt h T n p f) (hp : pf n p f) (hq : ∀ h', TF h h' → TSt h' T n (rN T n p f).1 (rN T n p f).2.1 → Q (rN T n p f).2.2 h') : cI wdC d mX5_readNumber [.inr (.inr 44)] h Q := by
  have t1 := hT.1
  have x := rX_pf (T := T) (c := 32) hp
  unfold rN at hq
  refine sg_X5_readNumber_0 (by omega) (C_expect (by omega) hT hs hp (fun h1 k1 s1 => ?_))
  generalize rX T n 32 p f = r at *
  obtain ⟨x1, x2, x3⟩ := x
  unfold pf at x1
  rw [s1.2.2.1]
  refine ⟨inI_s (by omega) (by omega), fun z => C_isFigure hT s1 (by omega) (fun b => ?_) (fun b => ?_), fun z => ?_⟩
  · rw [if_neg (by omega), b, if_pos rfl] at hq
    have d1 := isD_t b
    refine C_readFigure hT s1 (by omega) (fun h2 k2 s2 => C_isFigure hT s2 (by omega) (fun b2 => ?_) (fun b2 => ?_))
    · rw [b2, if_pos rfl] at hq
      have d2 := isD_t b2
      exact C_readFigure hT s2 (by omega) (fun h3 k3 s3 => hq h3 ((k1.tr k2).tr k3) s3)
    · rw [b2, if_neg (by decide)] at hq
      exact hq h2 (k1.tr k2) s2
  · rw [if_neg (by omega), b, if_neg (by decide)] at hq
    rw [s1.2.1]
    exact hq _ (k1.tr (TF.x3 h1 r.1)) (s1.upd (TF.x3 h1 r.1) (by rw [xu_ne (by decide)]; exact s1.2.1) xu_eq)
  · rw [if_pos z] at hq
    exact hq h1 k1 s1
end TG
