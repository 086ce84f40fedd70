/-! the tape: the reference reads -/
def MSt (m : xH) (T : Int → Int) (n p f : Int) : Prop := m 0 22 = n ∧ m 0 24 = p ∧ m 0 25 = f ∧ (∀ i, 0 ≤ i → i < n → m 14 i = T i) ∧ ∀ i : Nat, i < 49 → m 20 i = wordsL.getD i 0
def MF (m m' : xH) : Prop := kp [0] m m' ∧ ∀ i, i ≠ 24 → i ≠ 25 → m' 0 i = m 0 i
theorem MF.rf (m : xH) : MF m m := ⟨kp_rf _ _, fun _ _ _ => rfl⟩
theorem MF.tr {h h1 h2 : xH} (a : MF h h1) (b : MF h1 h2) : MF h h2 := ⟨kp_tr a.1 b.1, fun i x y => by rw [b.2 i x y, a.2 i x y]⟩
theorem MF.x4 (h : xH) (v : Int) : MF h (xu h 0 24 v) := ⟨kp_xu (by decide), fun i a b => xu_ne a⟩
theorem MF.x5 (h : xH) (v : Int) : MF h (xu h 0 25 v) := ⟨kp_xu (by decide), fun i a b => xu_ne b⟩
theorem MSt.upd {m m' : xH} {T : Int → Int} {n p f p' f' : Int} (s : MSt m T n p f) (t : MF m m') (e2 : m' 0 24 = p') (e3 : m' 0 25 = f') : MSt m' T n p' f' :=
  ⟨by rw [t.2 22 (by decide) (by decide)]; exact s.1, e2, e3, fun i a b => by rw [t.1 14 (by decide)]; exact s.2.2.2.1 i a b, fun i a => by rw [t.1 20 (by decide)]; exact s.2.2.2.2 i a⟩
theorem MSt.oth {m : xH} {T : Int → Int} {n p f j v : Int} {c : Nat} (s : MSt m T n p f) (hc : 0 ≠ c ∧ 14 ≠ c ∧ 20 ≠ c) : MSt (xu m c j v) T n p f := by
  unfold MSt
  rw [xu_cn hc.1, xu_cn hc.1, xu_cn hc.1, xu_oth hc.2.1, xu_oth hc.2.2]
  exact s
def hv (T : Int → Int) (n p : Int) : Int := if p < n then T p else 0
theorem hv_in {T : Int → Int} {n p : Int} (hT : TBy T n) (hp : 0 ≤ p) : 0 ≤ hv T n p ∧ hv T n p ≤ 127 := by
  unfold hv
  split
  · have := hT.2 p hp (by assumption); omega
  · omega
/-- where word w begins in the row of words -/
def wof (w : Nat) : Nat := [0, 4, 9, 15, 20, 26, 32, 37, 43, 49].getD w 0
theorem wof_ok : ∀ w : Nat, w < 9 → wof (w + 1) = wof w + xlen.getD w 0 + 1 ∧ wof w + xlen.getD w 0 < 49 ∧ wordsL.getD (wof w + xlen.getD w 0) 0 = 0 ∧ ∀ k : Nat, k < xlen.getD w 0 → wordsL.getD (wof w + k) 0 = ((xbyt.getD w []).getD k 0).toInt ∧ wordsL.getD (wof w + k) 0 ≠ 0 := by decide +kernel
section TM
variable {d : Nat} {T : Int → Int} {n p f : Int} {m : xH}
theorem M_here {Q : Int → xH → Prop} (hT : TBy T n) (hs : MSt m T n p f) (hp : 0 ≤ p ∧ p ≤ n) (hq : Q (hv T n p) m) : cI wdM d mX8_here [.inr (.inr 0)] m Q := by
  obtain ⟨s1, s2, s3, s4, s5⟩ := id hs
  have t1 := hT.1
  refine sg_X8_here_0 ?_
  rw [s1, s2]
  unfold hv at hq
  refine ⟨⟨inI_s (by omega) (by omega), inI_s (by omega) (by omega)⟩, fun z => ?_, fun z => ⟨by omega, ?_⟩⟩
  · rw [if_neg (by omega)] at hq; exact hq
  · rw [if_pos z] at hq
    rw [s4 p hp.1 z]; exact hq
theorem M_fails {x : Int} {Q : xH → Prop} (hf : inI (m 0 25)) (h1 : 0 ≤ m 0 25 → Q m) (h2 : m 0 25 < 0 → Q (xu m 0 25 x)) : cV wdM d mX8_fails [.inr (.inr 0), .inl x] m Q := sg_X8_fails_0 ⟨hf, h1, h2⟩
theorem M_blank {Q : xH → Prop} (hd : 1 ≤ d) (hT : TBy T n) (hs : MSt m T n p (-1)) (hp : 0 ≤ p ∧ p ≤ n) (hq : ∀ m', MF m m' → MSt m' T n (rX T n 32 p (-1)).1 (rX T n 32 p (-1)).2 → Q m') : cV wdM d mX8_blank [.inr (.inr 0)] m Q := by
  obtain ⟨s1, s2, s3, s4, s5⟩ := id hs
  have t1 := hT.1
  have hb := hv_in hT hp.1
  refine sg_X8_blank_0 (by omega) (M_here hT hs hp ?_)
  rw [s2, s3]
  refine ⟨inI_s (by omega) (by omega), fun z => ⟨inI_s (by omega) (by omega), fun y => by omega, fun _ => ?_⟩, fun z => M_fails (by rw [s3]; exact inI_s (by omega) (by omega)) (fun y => by rw [s3] at y; omega) (fun _ => ?_)⟩
  · have e : rX T n 32 p (-1) = (p + 1, -1) := by
      unfold rX hv at *
      by_cases c : p < n
      · rw [if_pos c] at z; rw [if_neg (by omega), if_pos ⟨c, z⟩]
      · rw [if_neg c] at z; omega
    rw [e] at hq
    exact hq _ (MF.x4 m (p + 1)) (hs.upd (MF.x4 m (p + 1)) xu_eq (by rw [xu_ne (by decide)]; exact s3))
  · have e : rX T n 32 p (-1) = (p, p) := by
      unfold rX hv at *
      rw [if_neg (by omega), if_neg (fun y => by rw [if_pos y.1] at z; exact z y.2)]
    rw [e] at hq
    rw [xu_eq]
    exact ⟨inI_s (by omega) (by omega), fun _ => hq _ (MF.x5 m p) (hs.upd (MF.x5 m p) (by rw [xu_ne (by decide)]; exact s2) xu_eq), fun y => by omega⟩
theorem isD_hv (T : Int → Int) (n p : Int) : isD T n p = true ↔ 48 ≤ hv T n p ∧ hv T n p ≤ 57 := by
  unfold isD hv
  rw [decide_eq_true_iff]
  by_cases c : p < n
  · rw [if_pos c]; omega
  · rw [if_neg c]; omega
theorem M_fig {v : Int} {from' : Int} {Q : Int → xH → Prop} (hd : 1 ≤ d) (hT : TBy T n) (hs : MSt m T n p (-1)) (hp : 0 ≤ p ∧ p ≤ n) (hfr : from' ≤ p ∧ p ≤ from' + 1)
    (hn : isD T n p = false → (¬ p = from' → Q v m) ∧ (p = from' → Q v (xu m 0 25 p))) (hy : isD T n p = true → gI wdM d mX8_figures 11 [some (.inr (.inr 0)), some (.inl from'), some (.inl (10 * v + T p - 48))] (xu m 0 24 (p + 1)) Q) : gI wdM d mX8_figures 11 [some (.inr (.inr 0)), some (.inl from'), some (.inl v)] m Q := by
  obtain ⟨s1, s2, s3, s4, s5⟩ := id hs
  have t1 := hT.1
  have hb := hv_in hT hp.1
  have idh := isD_hv T n p
  have stop : ¬ (48 ≤ hv T n p ∧ hv T n p ≤ 57) → (inI p ∧ inI from') ∧ (¬ p = from' → Q v m) ∧ (p = from' → cV wdM (d - 1) mX8_fails [.inr (.inr 0), .inl p] m (fun h1 => Q v h1)) := fun z => by
    have e : isD T n p = false := by
      cases h : isD T n p with
      | false => rfl
      | true => exact absurd (idh.mp h) z
    have := hn e
    exact ⟨⟨inI_s (by omega) (by omega), inI_s (by omega) (by omega)⟩, this.1, fun y => M_fails (by rw [s3]; exact inI_s (by omega) (by omega)) (fun x => by rw [s3] at x; omega) (fun _ => this.2 y)⟩
  refine sg_X8_figures_11 hd ?_
  rw [s2, s3]
  refine ⟨inI_s (by omega) (by omega), fun z => by omega, fun _ => ⟨⟨inI_s (by omega) (by omega), inI_s (by omega) (by omega)⟩, fun z => by omega, fun _ => M_here hT hs hp ⟨inI_s (by omega) (by omega), fun z => ?_, fun z => M_here hT hs hp ⟨inI_s (by omega) (by omega), fun y => ?_, fun y => M_here hT hs hp ?_⟩⟩⟩⟩
  · rw [s2]; exact stop (by omega)
  · rw [s2]; exact stop (by omega)
  · rw [s2]
    have e := idh.mpr ⟨z, y⟩
    have h0 := hy e
    have d1 := isD_t e
    have : hv T n p = T p := by unfold hv; rw [if_pos d1.1]
    rw [this]
    exact h0
theorem M_figures {Q : Int → xH → Prop} (hd : 2 ≤ d) (hT : TBy T n) (hs : MSt m T n p (-1)) (hp : 0 ≤ p ∧ p ≤ n) (hq : ∀ m', MF m m' → MSt m' T n (rN T n p (-1)).1 (rN T n p (-1)).2.1 → Q (rN T n p (-1)).2.2 m') : cI wdM d mX8_figures [.inr (.inr 0)] m Q := by
  have t1 := hT.1
  have x := rX_pf (T := T) (n := n) (c := 32) (p := p) (f := -1) ⟨hp, by omega, by omega⟩
  unfold rN at hq
  refine sg_X8_figures_0 (by omega) (M_blank (by omega) hT hs hp (fun m1 k1 s1 => ?_))
  generalize rX T n 32 p (-1) = r at *
  obtain ⟨x1, x2, x3⟩ := x
  unfold pf at x1
  rw [s1.2.1]
  by_cases c : 0 ≤ r.2
  · rw [if_pos c] at hq
    refine sg_X8_figures_11 (by omega) ?_
    rw [s1.2.1, s1.2.2.1]
    refine ⟨inI_s (by omega) (by omega), fun _ => ⟨⟨inI_s (by omega) (by omega), inI_s (by omega) (by omega)⟩, fun z => absurd rfl z, fun _ => M_fails (by rw [s1.2.2.1]; exact inI_s (by omega) (by omega)) (fun _ => hq m1 k1 s1) (fun z => by rw [s1.2.2.1] at z; omega)⟩, fun z => by omega⟩
  · have e2 := (x3 (by omega)).2.1
    rw [if_neg c, e2] at hq
    rw [e2] at s1
    refine M_fig (by omega) hT s1 (by omega) (by omega) (fun b => ⟨fun z => absurd rfl z, fun _ => ?_⟩) (fun b => ?_)
    · rw [b, if_neg (by decide)] at hq
      exact hq _ (k1.tr (MF.x5 m1 r.1)) (s1.upd (MF.x5 m1 r.1) (by rw [xu_ne (by decide)]; exact s1.2.1) xu_eq)
    · rw [b, if_pos rfl] at hq
      have d1 := isD_t b
      have s2 : MSt (xu m1 0 24 (r.1 + 1)) T n (r.1 + 1) (-1) := s1.upd (MF.x4 m1 (r.1 + 1)) xu_eq (by rw [xu_ne (by decide)]; exact s1.2.2.1)
      have k2 := k1.tr (MF.x4 m1 (r.1 + 1))
      refine M_fig (by omega) hT s2 (by omega) (by omega) (fun b2 => ⟨fun _ => ?_, fun z => by omega⟩) (fun b2 => ?_)
      · rw [b2, if_neg (by decide)] at hq
        rw [show 10 * 0 + T r.1 - 48 = T r.1 - 48 by omega]
        exact hq _ k2 s2
      · rw [b2, if_pos rfl] at hq
        have d2 := isD_t b2
        have s3 : MSt (xu (xu m1 0 24 (r.1 + 1)) 0 24 (r.1 + 1 + 1)) T n (r.1 + 1 + 1) (-1) := s2.upd (MF.x4 _ (r.1 + 1 + 1)) xu_eq (by rw [xu_ne (by decide)]; exact s2.2.2.1)
        refine sg_X8_figures_11 (by omega) ?_
        rw [s3.2.1, s3.2.2.1]
        refine ⟨inI_s (by omega) (by omega), fun z => by omega, fun _ => ⟨⟨inI_s (by omega) (by omega), inI_s (by omega) (by omega)⟩, fun _ => ⟨⟨inI_s (by omega) (by omega), inI_s (by omega) (by omega)⟩, fun _ => ?_, fun z => by omega⟩, fun z => by omega⟩⟩
        rw [show 10 * (10 * 0 + T r.1 - 48) + T (r.1 + 1) - 48 = 10 * (T r.1 - 48) + (T (r.1 + 1) - 48) by omega]
        exact hq _ (k2.tr (MF.x4 _ (r.1 + 1 + 1))) s3
theorem M_word {a b c : Nat} {Q : Int → xH → Prop} (hd : 1 ≤ d) (hb : b ≤ 8) (hc : a + c = b + 1) (hT : TBy T n) (hs : MSt m T n p (-1)) (hp : 0 ≤ p ∧ p ≤ n)
    (hq : ∀ m', MF m m' → MSt m' T n (sk T n p) (-1) → 0 ≤ fw T p (sk T n p) a c → Q ((a : Int) + fw T p (sk T n p) a c) m')
    (hz : ∀ m', MF m m' → MSt m' T n (sk T n p) p → fw T p (sk T n p) a c < 0 → Q 0 m') : cI wdM d mX8_word [.inr (.inr 0), .inl (a : Int), .inl (b : Int)] m Q := by
  have t1 := hT.1
  have skb := sk_b (T := T) hp.2
  -- behind the word
  have beh : ∀ m1, MF m m1 → MSt m1 T n (sk T n p) (-1) → gI wdM d mX8_word 51 [some (.inr (.inr 0)), some (.inl (a : Int)), some (.inl (b : Int)), some (.inl p), some (.inl 0), some (.inl 0), none] m1 Q := by
    intro m1 k1 s1
    obtain ⟨q1, q2, q3, q4, q5⟩ := id s1
    have lp : ∀ (t w : Nat), w + t = b + 1 → (∀ v : Nat, a ≤ v → v < w → wdm T v p (sk T n p) = false) → gI wdM d mX8_word 51 [some (.inr (.inr 0)), some (.inl (a : Int)), some (.inl (b : Int)), some (.inl p), some (.inl (wof w : Int)), some (.inl (w : Int)), none] m1 Q := by
      intro t
      induction t with
      | zero =>
        intro w hw hv
        have e : fw T p (sk T n p) a c = -1 := fw_no (fun v hv' => hv (a + v) (by omega) (by omega))
        refine sg_X8_word_51 (by omega) ⟨⟨inI_s (by omega) (by omega), inI_s (by omega) (by omega)⟩, fun _ => M_fails (by rw [q3]; exact inI_s (by omega) (by omega)) (fun z => by rw [q3] at z; omega) (fun _ => ?_), fun z => by omega⟩
        exact hz _ (k1.tr (MF.x5 m1 p)) (s1.upd (MF.x5 m1 p) (by rw [xu_ne (by decide)]; exact q2) xu_eq) (by omega)
      | succ t ih =>
        intro w hw hv
        have w9 : w < 9 := by omega
        obtain ⟨o1, o2, o3, o4⟩ := wof_ok w w9
        have sl : slen w = ((xlen.getD w 0 : Nat) : Int) := rfl
        have sl2 := slen_in w9
        generalize hL : xlen.getD w 0 = L at *
        -- on to the next word
        have skip : (∀ v : Nat, a ≤ v → v < w + 1 → wdm T v p (sk T n p) = false) → gI wdM d mX8_word 145 [some (.inr (.inr 0)), some (.inl (a : Int)), some (.inl (b : Int)), some (.inl p), some (.inl (wof w : Int)), some (.inl (w : Int)), none] m1 Q := by
          intro hv2
          have sl3 : ∀ j : Int, j ≤ (L : Int) → 0 ≤ j → gI wdM d mX8_word 145 [some (.inr (.inr 0)), some (.inl (a : Int)), some (.inl (b : Int)), some (.inl p), some (.inl ((wof w : Int) + j)), some (.inl (w : Int)), none] m1 Q := by
            refine dn ?_ ?_
            · intro _
              refine sg_X8_word_145 ?_
              rw [show (wof w : Int) + L = ((wof w + L : Nat) : Int) by omega, q5 (wof w + L) o2, o3]
              refine ⟨by omega, inI_s (by omega) (by omega), fun _ => ?_, fun z => absurd rfl z⟩
              have := ih (w + 1) (by omega) hv2
              rw [o1] at this
              rw [show ((wof w + L : Nat) : Int) + 1 = ((wof w + L + 1 : Nat) : Int) by omega, show (w : Int) + 1 = ((w + 1 : Nat) : Int) by omega]
              exact this
            · intro j hj ihj j0
              obtain ⟨J, eJ⟩ : ∃ J : Nat, j = J := ⟨j.toNat, by omega⟩
              subst eJ
              have o := o4 J (by omega)
              refine sg_X8_word_145 ?_
              rw [show (wof w : Int) + J = ((wof w + J : Nat) : Int) by omega, q5 (wof w + J) (by omega)]
              refine ⟨by omega, ?_, fun z => absurd z o.2, fun _ => ?_⟩
              · rw [o.1]
                have := sraw_ok w9 (k := J) ⟨by omega, by omega⟩
                unfold sraw at this
                rw [show ((J : Int)).toNat = J by omega] at this
                exact inI_s (by omega) (by omega)
              · have := ihj (by omega)
                rw [show ((wof w + J : Nat) : Int) + 1 = (wof w : Int) + ((J : Int) + 1) by omega]
                exact this
          have := sl3 0 (by omega) (by omega)
          rw [Int.add_zero] at this
          exact this
        have mis : wdm T w p (sk T n p) = false → gI wdM d mX8_word 145 [some (.inr (.inr 0)), some (.inl (a : Int)), some (.inl (b : Int)), some (.inl p), some (.inl (wof w : Int)), some (.inl (w : Int)), none] m1 Q := fun e => skip (fun v x y => by
          by_cases u : v = w
          · rw [u]; exact e
          · exact hv v x (by omega))
        have low : w < a → gI wdM d mX8_word 145 [some (.inr (.inr 0)), some (.inl (a : Int)), some (.inl (b : Int)), some (.inl p), some (.inl (wof w : Int)), some (.inl (w : Int)), none] m1 Q := fun e => skip (fun v x y => by omega)
        have cmp : ∀ k : Int, k ≤ (L : Int) → 0 ≤ k → k ≤ sk T n p - p → (∀ j : Nat, (j : Int) < k → T (p + j) = schr w j) → gI wdM d mX8_word 60 [some (.inr (.inr 0)), some (.inl (a : Int)), some (.inl (b : Int)), some (.inl p), some (.inl (wof w : Int)), some (.inl (w : Int)), some (.inl k)] m1 Q := by
          refine dn ?_ ?_
          · intro _ hk hj
            refine sg_X8_word_60 ?_
            rw [show (wof w : Int) + L = ((wof w + L : Nat) : Int) by omega, q5 (wof w + L) o2, o3, q2]
            refine ⟨by omega, inI_s (by omega) (by omega), fun _ => ⟨⟨inI_s (by omega) (by omega), inI_s (by omega) (by omega)⟩, fun z => low (by omega), fun z => ⟨by omega, inI_s (by omega) (by omega), fun y => absurd rfl y, fun _ => ⟨⟨inI_s (by omega) (by omega), inI_s (by omega) (by omega)⟩, fun y => mis (wdm_f1 (by omega)), fun y => ?_⟩⟩⟩, fun y => absurd rfl y⟩
            have wt : wdm T w p (sk T n p) = true := wdm_mk (by omega) (fun j hj' => hj j (by omega))
            have e : fw T p (sk T n p) a c = ((w - a : Nat) : Int) := fw_at (by omega) (by rw [show a + (w - a) = w by omega]; exact wt) (fun v hv' => hv (a + v) (by omega) (by omega))
            have h0 := hq m1 k1 s1 (by omega)
            rw [e, show (a : Int) + ((w - a : Nat) : Int) = w by omega] at h0
            exact h0
          · intro k hk ihk k0 hk2 hj
            obtain ⟨K, eK⟩ : ∃ K : Nat, k = K := ⟨k.toNat, by omega⟩
            subst eK
            have ihk := ihk (by omega)
            have o := o4 K (by omega)
            have sr := sraw_ok w9 (k := K) ⟨by omega, by omega⟩
            have esr : ((xbyt.getD w []).getD K 0).toInt = schr w K := by unfold schr sraw; rw [show ((K : Int)).toNat = K by omega]
            rw [esr] at o
            have esr2 : sraw w K = schr w K := rfl
            refine sg_X8_word_60 ?_
            rw [show (wof w : Int) + K = ((wof w + K : Nat) : Int) by omega, q5 (wof w + K) (by omega), q2, o.1]
            refine ⟨by omega, inI_s (by omega) (by omega), fun z => by omega, fun _ => ⟨⟨inI_s (by omega) (by omega), inI_s (by omega) (by omega)⟩, fun z => ?_, fun z => ?_⟩⟩
            · have no : wdm T w p (sk T n p) = false := wdm_f1 (by omega)
              exact ⟨⟨inI_s (by omega) (by omega), inI_s (by omega) (by omega)⟩, fun y => low (by omega), fun y => ⟨by omega, inI_s (by omega) (by omega), fun _ => mis no, fun x => by omega⟩⟩
            · have tb := hT.2 (p + K) (by omega) (by omega)
              rw [q4 (p + K) (by omega) (by omega)]
              refine ⟨by omega, by omega, ⟨inI_s (by omega) (by omega), inI_s (by omega) (by omega)⟩, fun y => ?_, fun y => ihk (by omega) (fun j hj' => ?_)⟩
              · have no : wdm T w p (sk T n p) = false := wdm_f2 K (by omega) y
                exact ⟨⟨inI_s (by omega) (by omega), inI_s (by omega) (by omega)⟩, fun x => low (by omega), fun x => ⟨by omega, inI_s (by omega) (by omega), fun _ => mis no, fun x => by omega⟩⟩
              · by_cases u : j = K
                · rw [u]; exact y
                · exact hj j (by omega)
        exact sg_X8_word_51 (by omega) ⟨⟨inI_s (by omega) (by omega), inI_s (by omega) (by omega)⟩, fun z => by omega, fun _ => cmp 0 (by omega) (by omega) (by omega) (fun j hj => by omega)⟩
    exact lp (b + 1) 0 (by omega) (fun v _ hv => by omega)
  have skip : ∀ (t : Nat) (x : Int) (m1 : xH), x + t = n → 0 ≤ x → MF m m1 → MSt m1 T n x (-1) → sk T n x = sk T n p → gI wdM d mX8_word 14 [some (.inr (.inr 0)), some (.inl (a : Int)), some (.inl (b : Int)), some (.inl p), none, none, none] m1 Q := by
    intro t
    induction t with
    | zero =>
      intro x m1 hx x0 k1 s1 e
      have nl : isL T n x = false := decide_eq_false (fun z => by omega)
      have h0 : hv T n x = 0 := by unfold hv; rw [if_neg (by omega)]
      rw [sk_f nl] at e
      refine sg_X8_word_14 (by omega) (M_here hT s1 (by omega) ?_)
      rw [h0]
      exact ⟨inI_s (by omega) (by omega), fun _ => beh m1 k1 (by rw [← e]; exact s1), fun z => by omega⟩
    | succ t ih =>
      intro x m1 hx x0 k1 s1 e
      have tb := hT.2 x x0 (by omega)
      have h0 : hv T n x = T x := by unfold hv; rw [if_pos (by omega)]
      have done : ¬ (97 ≤ T x ∧ T x ≤ 122) → gI wdM d mX8_word 51 [some (.inr (.inr 0)), some (.inl (a : Int)), some (.inl (b : Int)), some (.inl p), some (.inl 0), some (.inl 0), none] m1 Q := fun z => by
        have nl : isL T n x = false := decide_eq_false (fun y => by omega)
        rw [sk_f nl] at e
        exact beh m1 k1 (by rw [← e]; exact s1)
      refine sg_X8_word_14 (by omega) (M_here hT s1 (by omega) ?_)
      rw [h0]
      refine ⟨inI_s (by omega) (by omega), fun z => done (by omega), fun z => M_here hT s1 (by omega) ?_⟩
      rw [h0, s1.2.1]
      refine ⟨inI_s (by omega) (by omega), fun y => done (by omega), fun y => ?_⟩
      have il : isL T n x = true := decide_eq_true ⟨by omega, z, y⟩
      rw [sk_t il] at e
      exact ih (x + 1) _ (by omega) (by omega) (k1.tr (MF.x4 m1 (x + 1))) (s1.upd (MF.x4 m1 (x + 1)) xu_eq (by rw [xu_ne (by decide)]; exact s1.2.2.1)) e
  refine sg_X8_word_0 ?_
  rw [hs.2.1, hs.2.2.1]
  exact ⟨inI_s (by omega) (by omega), fun _ => skip (n - p).toNat p m (by omega) hp.1 (MF.rf m) hs rfl, fun z => by omega⟩
end TM
