/-! turns: as sets -/
def tst (f : Int → Int) (n a : Int) : Prop := ∃ t, 0 ≤ t ∧ t < n ∧ f t = a
def inj1 (f : Int → Int) (n : Int) : Prop := ∀ t u, 0 ≤ t → t < n → 0 ≤ u → u < n → f t = f u → t = u
def cvT (x : Int) : Int := 100 * (x % 16) + x / 16
theorem perm_of : ∀ (l1 l2 : List Int), l1.Nodup → l2.Nodup → (∀ a, a ∈ l1 ↔ a ∈ l2) → l1.Perm l2 := by
  intro l1
  induction l1 with
  | nil =>
    intro l2 _ _ h
    cases l2 with
    | nil => exact List.Perm.refl _
    | cons b l => exact absurd ((h b).mpr (List.mem_cons_self ..)) (by simp)
  | cons a l ih =>
    intro l2 n1 n2 h
    have ha : a ∈ l2 := (h a).mp (List.mem_cons_self ..)
    have n1' := List.nodup_cons.mp n1
    refine List.Perm.trans (List.Perm.cons a (ih (l2.erase a) n1'.2 (n2.erase a) (fun b => ?_))) (List.perm_cons_erase ha).symm
    rw [List.Nodup.mem_erase_iff n2]
    constructor
    · intro hb
      exact ⟨fun e => n1'.1 (e ▸ hb), (h b).mp (List.mem_cons_of_mem _ hb)⟩
    · intro ⟨e, hb⟩
      rcases List.mem_cons.mp ((h b).mpr hb) with z | z
      · exact absurd z e
      · exact z
theorem mem_tst {f : Int → Int} {n : Int} (hn : 0 ≤ n) (a : Int) : a ∈ (List.range n.toNat).map (fun t : Nat => f t) ↔ tst f n a := by
  rw [List.mem_map]
  constructor
  · intro ⟨t, ht, e⟩
    have := List.mem_range.mp ht
    exact ⟨t, by omega, by omega, e⟩
  · intro ⟨t, a, b, e⟩
    exact ⟨t.toNat, List.mem_range.mpr (by omega), by rw [show ((t.toNat : Nat) : Int) = t by omega]; exact e⟩
theorem nodup_inj {f : Int → Int} : ∀ n : Nat, inj1 f n → ((List.range n).map (fun t : Nat => f t)).Nodup := by
  intro n
  induction n with
  | zero => intro _; simp
  | succ n ih =>
    intro h
    rw [List.range_succ, List.map_append, List.nodup_append]
    refine ⟨ih (fun t u a b c d e => h t u a (by omega) c (by omega) e), by simp, fun x hx y hy e => ?_⟩
    rw [List.mem_map] at hx
    obtain ⟨t, ht, e1⟩ := hx
    have ht := List.mem_range.mp ht
    simp at hy
    subst hy; subst e
    have := h t n (by omega) (by omega) (by omega) (by omega) e1
    omega
theorem prm {f g : Int → Int} {n : Int} (hn : 0 ≤ n) (hf : inj1 f n) (hg : inj1 g n) (h : ∀ a, tst f n a ↔ tst g n a) : ((List.range n.toNat).map (fun t : Nat => f t)).Perm ((List.range n.toNat).map (fun t : Nat => g t)) := by
  have en : ((n.toNat : Nat) : Int) = n := by omega
  refine perm_of _ _ (nodup_inj _ (by rw [en]; exact hf)) (nodup_inj _ (by rw [en]; exact hg)) (fun a => ?_)
  rw [mem_tst hn, mem_tst hn]
  exact h a
theorem prm_tst {f g : Int → Int} {n : Int} (hn : 0 ≤ n) (h : ((List.range n.toNat).map (fun t : Nat => f t)).Perm ((List.range n.toNat).map (fun t : Nat => g t))) (a : Int) : tst f n a ↔ tst g n a := by
  rw [← mem_tst hn, ← mem_tst hn]
  exact h.mem_iff
theorem cvT_inj {x y : Int} (hx : 0 ≤ x ∧ x < 1600) (hy : 0 ≤ y ∧ y < 1600) (e : cvT x = cvT y) : x = y := by
  unfold cvT at e; omega
theorem cvT_code {k r : Int} (hk : 0 ≤ k ∧ k < 16) : cvT (r * 16 + k) = 100 * k + r := by
  unfold cvT; omega
/-- the class's turns say what the reference's codes say -/
theorem RPat.tst {h : xH} {s : Int → Int} (hW : WFp s) (hR : RPat h 1 2 3 4 5 s) (a : Int) : tst (fun t => cvT (h 5 t)) (s 2) a ↔ tst (fun t => s (137 + t)) (s 2) a :=
  prm_tst (f := fun t => cvT (h 5 t)) (g := fun t => s (137 + t)) hW.2.2.1.1 hR.2.2.2.2.2.2.2 a
theorem RPat_turns {h' : xH} {s' : Int → Int} (hW : WFp s') (g0 : h' 1 0 = s' 0) (g2 : h' 1 2 = s' 1) (g6 : h' 1 6 = s' 2)
    (eR : ∀ p, 0 ≤ p → p < s' 1 → h' 2 p = s' (5 + p) ∧ h' 3 p = s' (35 + p) ∧ h' 4 p = s' (65 + p)) (eF : ∃ f : Nat, h' 1 1 = f ∧ f < 2 ^ (s' 0).toNat ∧ ∀ k : Nat, (k : Int) < s' 0 → s' (125 + k) = bti f k)
    (h6 : ∀ t, 0 ≤ t → t < s' 2 → 0 ≤ h' 5 t ∧ h' 5 t < 1600 ∧ h' 5 t % 16 < s' 0) (h7 : ∀ t u, 0 ≤ t → t < u → u < s' 2 → h' 5 t < h' 5 u) (h8 : ∀ a, tst (fun t => cvT (h' 5 t)) (s' 2) a ↔ tst (fun t => s' (137 + t)) (s' 2) a) : RPat h' 1 2 3 4 5 s' := by
  refine ⟨g0, g2, g6, eR, eF, h6, h7, ?_⟩
  refine prm (f := fun t => cvT (h' 5 t)) (g := fun t => s' (137 + t)) hW.2.2.1.1 (fun t u a b c d e => ?_) hW.2.2.2.2.2.2.2 h8
  have x := h6 t a b
  have y := h6 u c d
  have e := cvT_inj ⟨x.1, x.2.1⟩ ⟨y.1, y.2.1⟩ e
  rcases (show t < u ∨ t = u ∨ u < t by omega) with z | z | z
  · have := h7 t u a z d; omega
  · exact z
  · have := h7 u t c z b; omega
/-! the class's sorting -/
theorem tst_swap {f g : Int → Int} {n j : Int} (hj : 0 < j ∧ j < n) (e1 : g (j - 1) = f j) (e2 : g j = f (j - 1)) (eo : ∀ t, t ≠ j → t ≠ j - 1 → g t = f t) : (∀ a, tst g n a ↔ tst f n a) ∧ (inj1 f n → inj1 g n) := by
  refine ⟨fun a => ⟨fun ⟨t, a0, a1, e⟩ => ?_, fun ⟨t, a0, a1, e⟩ => ?_⟩, fun h t u a b c d e => ?_⟩
  · by_cases z : t = j
    · exact ⟨j - 1, by omega, by omega, by rw [← e2, ← z]; exact e⟩
    · by_cases y : t = j - 1
      · exact ⟨j, by omega, by omega, by rw [← e1, ← y]; exact e⟩
      · exact ⟨t, a0, a1, by rw [← eo t z y]; exact e⟩
  · by_cases z : t = j
    · exact ⟨j - 1, by omega, by omega, by rw [e1, ← z]; exact e⟩
    · by_cases y : t = j - 1
      · exact ⟨j, by omega, by omega, by rw [e2, ← y]; exact e⟩
      · exact ⟨t, a0, a1, by rw [eo t z y]; exact e⟩
  · have k : ∀ t, 0 ≤ t → t < n → ∃ t', 0 ≤ t' ∧ t' < n ∧ g t = f t' ∧ (t = j → t' = j - 1) ∧ (t = j - 1 → t' = j) ∧ (t ≠ j → t ≠ j - 1 → t' = t) := fun t a b => by
      by_cases z : t = j
      · exact ⟨j - 1, by omega, by omega, by rw [z]; exact e2, by omega, by omega, by omega⟩
      · by_cases y : t = j - 1
        · exact ⟨j, by omega, by omega, by rw [y]; exact e1, by omega, by omega, by omega⟩
        · exact ⟨t, a, b, eo t z y, by omega, by omega, by omega⟩
    obtain ⟨t', a1, a2, a3, a4, a5, a6⟩ := k t a b
    obtain ⟨u', b1, b2, b3, b4, b5, b6⟩ := k u c d
    rw [a3, b3] at e
    have := h t' u' a1 a2 b1 b2 e
    omega
theorem C_sortTurns {d : Nat} {n : Int} {h : xH} {Q : xH → Prop} (hn : h 1 6 = n) (h0 : 0 ≤ n ∧ n ≤ 10) (hr : ∀ t, 0 ≤ t → t < n → 0 ≤ h 5 t ∧ h 5 t < 1600) (hi : inj1 (h 5) n)
    (hq : ∀ h', kp [5] h h' → (∀ t u, 0 ≤ t → t < u → u < n → h' 5 t < h' 5 u) → (∀ a, tst (h' 5) n a ↔ tst (h 5) n a) → Q h') : cV wdC d mX3_sortTurns [.inr (.inr 1)] h Q := by
  -- values stay in their bounds
  have bd : ∀ f : Int → Int, (∀ a, tst f n a ↔ tst (h 5) n a) → ∀ t, 0 ≤ t → t < n → 0 ≤ f t ∧ f t < 1600 := fun f hf t a b => by
    obtain ⟨u, c, e, z⟩ := (hf (f t)).mp ⟨t, a, b, rfl⟩
    rw [← z]; exact hr u c e
  have lp : ∀ i : Int, i ≤ max n 1 → 1 ≤ i → ∀ h1 : xH, kp [5] h h1 → (∀ t u, 0 ≤ t → t < u → u < i → u < n → h1 5 t < h1 5 u) → (∀ a, tst (h1 5) n a ↔ tst (h 5) n a) → inj1 (h1 5) n → gV wdC d mX3_sortTurns 2 [some (.inr (.inr 1)), some (.inl i), none, none] h1 Q := by
    refine dn ?_ ?_
    · intro _ h1 k s1 s2 s3
      have e6 : h1 1 6 = n := by rw [k 1 (by decide)]; exact hn
      exact sg_X3_sortTurns_2 ⟨⟨inI_s (by omega) (by omega), inI_s (by omega) (by omega)⟩, fun _ => hq h1 k (fun t u a b c => s1 t u a b (by omega) c) s2, fun z => absurd z (by omega)⟩
    · intro i hi' ih i1 h1 k s1 s2 s3
      have e6 : h1 1 6 = n := by rw [k 1 (by decide)]; exact hn
      have vb := bd _ s2 i (by omega) (by omega)
      refine sg_X3_sortTurns_2 ⟨⟨inI_s (by omega) (by omega), inI_s (by omega) (by omega)⟩, fun z => absurd z (by omega), fun _ => ⟨by omega, ?_⟩⟩
      generalize hv : h1 5 i = v at vb ⊢
      -- the inner loop: v at place j
      have inn : ∀ j : Nat, (j : Int) ≤ i → ∀ h2 : xH, kp [5] h h2 → (∀ a, tst (up1 (h2 5) j v) n a ↔ tst (h 5) n a) → inj1 (up1 (h2 5) j v) n → (∀ t u, 0 ≤ t → t < u → u ≤ i → t ≠ j → u ≠ j → h2 5 t < h2 5 u) → (∀ u, (j : Int) < u → u ≤ i → v < h2 5 u) → gV wdC d mX3_sortTurns 19 [some (.inr (.inr 1)), some (.inl i), some (.inl v), some (.inl (j : Int))] h2 Q := by
        intro j
        induction j with
        | zero =>
          intro _ h2 k2 t1 t2 t3 t4
          refine sg_X3_sortTurns_19 ⟨inI_s (by omega) (by omega), fun _ => ⟨by omega, ih (by omega) _ (kp_tr k2 (kp_xu (by decide))) (fun t u a b c d => ?_) (by rw [xu_row]; exact t1) (by rw [xu_row]; exact t2)⟩, fun z => absurd z (by omega)⟩
          by_cases z : t = 0
          · rw [show ((0 : Nat) : Int) = 0 from rfl, z, xu_eq, xu_ne (by omega)]
            exact t4 u (by omega) (by omega)
          · rw [show ((0 : Nat) : Int) = 0 from rfl, xu_ne z, xu_ne (by omega)]
            exact t3 t u a b (by omega) (by omega) (by omega)
        | succ j ihj =>
          intro hj h2 k2 t1 t2 t3 t4
          have ej : ((j + 1 : Nat) : Int) = (j : Int) + 1 := by omega
          rw [ej] at t1 t2 t3 t4 hj ⊢
          have xb := bd _ t1 j (by omega) (by omega)
          rw [up1_ne (by omega)] at xb
          have e1 : (j : Int) + 1 - 1 = j := by omega
          have stop : h2 5 j ≤ v → gV wdC d mX3_sortTurns 2 [some (.inr (.inr 1)), some (.inl (i + 1)), none, none] (xu h2 5 (j + 1) v) Q := fun z => by
            have ne : h2 5 j ≠ v := fun e => by
              have := t2 j (j + 1) (by omega) (by omega) (by omega) (by omega) (by rw [up1_eq, up1_ne (by omega)]; exact e)
              omega
            refine ih (by omega) _ (kp_tr k2 (kp_xu (by decide))) (fun t u a b c d => ?_) (by rw [xu_row]; exact t1) (by rw [xu_row]; exact t2)
            by_cases z1 : t = (j : Int) + 1
            · rw [z1, xu_eq, xu_ne (by omega)]
              exact t4 u (by omega) (by omega)
            · rw [xu_ne z1]
              by_cases z2 : u = (j : Int) + 1
              · rw [z2, xu_eq]
                by_cases z3 : t = j
                · rw [z3]; omega
                · have := t3 t j a (by omega) (by omega) (by omega) (by omega); omega
              · rw [xu_ne z2]
                exact t3 t u a b (by omega) (by omega) (by omega)
          refine sg_X3_sortTurns_19 ⟨inI_s (by omega) (by omega), fun z => absurd z (by omega), fun _ => ⟨by omega, ?_⟩⟩
          rw [e1]
          refine ⟨⟨inI_s (by omega) (by omega), inI_s (by omega) (by omega)⟩, fun z => ⟨by omega, stop z⟩, fun z => ⟨by omega, by omega, ?_⟩⟩
          rw [show (j : Int) + 1 + (-1) = j by omega]
          have sw := tst_swap (f := up1 (h2 5) (j + 1) v) (g := up1 (xu h2 5 (j + 1) (h2 5 j) 5) j v) (n := n) (j := j + 1) (by omega) (by rw [e1, up1_eq, up1_eq]) (by rw [e1, up1_ne (by omega), xu_eq, up1_ne (by omega)]) (fun t a b => by rw [up1_ne (by omega), xu_ne a, up1_ne a])
          refine ihj (by omega) _ (kp_tr k2 (kp_xu (by decide))) (fun a => (sw.1 a).trans (t1 a)) (sw.2 t2) (fun t u a b c d e => ?_) (fun u a b => ?_)
          · by_cases z1 : t = (j : Int) + 1
            · rw [z1, xu_eq, xu_ne (by omega)]
              exact t3 j u (by omega) (by omega) c (by omega) (by omega)
            · rw [xu_ne z1]
              by_cases z2 : u = (j : Int) + 1
              · rw [z2, xu_eq]
                exact t3 t j a (by omega) (by omega) (by omega) (by omega)
              · rw [xu_ne z2]
                exact t3 t u a b c z1 z2
          · by_cases z2 : u = (j : Int) + 1
            · rw [z2, xu_eq]; exact z
            · rw [xu_ne z2]; exact t4 u (by omega) b
      have eu : up1 (h1 5) i v = h1 5 := by
        funext t
        by_cases z : t = i
        · rw [z, up1_eq, hv]
        · rw [up1_ne z]
      have := inn i.toNat (by omega) h1 k (by rw [show ((i.toNat : Nat) : Int) = i by omega, eu]; exact s2) (by rw [show ((i.toNat : Nat) : Int) = i by omega, eu]; exact s3) (fun t u a b c d e => s1 t u a b (by omega) (by omega)) (fun u a b => by omega)
      rw [show ((i.toNat : Nat) : Int) = i by omega] at this
      exact this
  exact sg_X3_sortTurns_0 (lp 1 (by omega) (by omega) h (kp_rf _ _) (fun t u a b c => by omega) (fun a => Iff.rfl) hi)
theorem C_placeOfTurn {d : Nat} {n x : Int} {h : xH} {Q : Int → xH → Prop} (hn : h 1 6 = n) (h0 : 0 ≤ n ∧ n ≤ 10) (hr : ∀ t, 0 ≤ t → t < n → 0 ≤ h 5 t ∧ h 5 t < 1600) (hx : inI x)
    (hq : ∀ r, inI r → (r < 0 → ¬ tst (h 5) n x) → (0 ≤ r → r < n ∧ h 5 r = x) → Q r h) : cI wdC d mX3_placeOfTurn [.inr (.inr 1), .inl x] h Q := by
  have lp : ∀ t : Int, t ≤ n → 0 ≤ t → (∀ u, 0 ≤ u → u < t → ¬ h 5 u = x) → gI wdC d mX3_placeOfTurn 2 [some (.inr (.inr 1)), some (.inl x), some (.inl t)] h Q := by
    refine dn ?_ ?_
    · intro _ hk
      exact sg_X3_placeOfTurn_2 ⟨⟨inI_s (by omega) (by omega), inI_s (by omega) (by omega)⟩, fun _ => hq (-1) (inI_s (by omega) (by omega)) (fun _ => fun ⟨t, a, b, c⟩ => hk t a b c) (by omega), fun z => absurd z (by omega)⟩
    · intro t ht ih t0 hk
      have b := hr t t0 ht
      exact sg_X3_placeOfTurn_2 ⟨⟨inI_s (by omega) (by omega), inI_s (by omega) (by omega)⟩, fun z => absurd z (by omega), fun _ => ⟨by omega, ⟨inI_s (by omega) (by omega), hx⟩, fun z => ih (by omega) (fun u a c => by
        by_cases y : u = t
        · rw [y]; exact z
        · exact hk u a (by omega)), fun z => hq t (inI_s (by omega) (by omega)) (by omega) (fun _ => ⟨ht, z⟩)⟩⟩
  exact sg_X3_placeOfTurn_0 (lp 0 (by omega) (by omega) (fun u a b => by omega))
theorem C_removeTurn {d : Nat} {n p : Int} {h : xH} {Q : xH → Prop} (hn : h 1 6 = n) (h0 : 0 ≤ n ∧ n ≤ 10) (hp : 0 ≤ p ∧ p < n)
    (hq : ∀ h', kp [1, 5] h h' → (∀ i, i ≠ 6 → h' 1 i = h 1 i) → h' 1 6 = n - 1 → (∀ t, h' 5 t = if p ≤ t ∧ t < n - 1 then h 5 (t + 1) else h 5 t) → Q h') : cV wdC d mX3_removeTurn [.inr (.inr 1), .inl p] h Q := by
  have lp : ∀ i : Int, i ≤ n - 1 → p ≤ i → ∀ h1 : xH, kp [5] h h1 → (∀ t, h1 5 t = if p ≤ t ∧ t < i then h 5 (t + 1) else h 5 t) → gV wdC d mX3_removeTurn 2 [some (.inr (.inr 1)), none, some (.inl i)] h1 Q := by
    refine dn ?_ ?_
    · intro _ h1 k hj
      have e1 : h1 1 = h 1 := k 1 (by decide)
      have e6 : h1 1 6 = n := by rw [e1]; exact hn
      refine sg_X3_removeTurn_2 ?_
      rw [e6]
      exact ⟨⟨inI_s (by omega) (by omega), inI_s (by omega) (by omega)⟩, fun _ => hq _ (kp_tr (kp_mono k (by decide)) (kp_xu (by decide))) (fun i hi => by rw [xu_ne hi, e1]) xu_eq (fun t => by rw [xu_cn (by decide)]; exact hj t), fun z => absurd z (by omega)⟩
    · intro i hi ih hpi h1 k hj
      have e6 : h1 1 6 = n := by rw [k 1 (by decide)]; exact hn
      refine sg_X3_removeTurn_2 ?_
      rw [e6]
      refine ⟨⟨inI_s (by omega) (by omega), inI_s (by omega) (by omega)⟩, fun z => absurd z (by omega), fun _ => ⟨by omega, by omega, ih (by omega) _ (kp_tr k (kp_xu (by decide))) (fun t => ?_)⟩⟩
      by_cases z : t = i
      · rw [z, xu_eq, if_pos (by omega), hj, if_neg (by omega)]
      · rw [xu_ne z, hj]
        by_cases y : p ≤ t ∧ t < i
        · rw [if_pos y, if_pos (by omega)]
        · rw [if_neg y, if_neg (by omega)]
  exact sg_X3_removeTurn_0 (lp p (by omega) (by omega) h (kp_rf _ _) (fun t => by rw [if_neg (by omega)]))
/-- one taken away, those behind it move up -/
theorem tst_rem {f g : Int → Int} {n p : Int} (hp : 0 ≤ p ∧ p < n) (hi : inj1 f n) (hg : ∀ t, 0 ≤ t → t < n - 1 → g t = if p ≤ t then f (t + 1) else f t) : (∀ a, tst g (n - 1) a ↔ tst f n a ∧ a ≠ f p) ∧ inj1 g (n - 1) := by
  refine ⟨fun a => ⟨fun ⟨t, a0, a1, e⟩ => ?_, fun ⟨⟨t, a0, a1, e⟩, ne⟩ => ?_⟩, fun t u a b c d e => ?_⟩
  · rw [hg t a0 a1] at e
    by_cases z : p ≤ t
    · rw [if_pos z] at e
      exact ⟨⟨t + 1, by omega, by omega, e⟩, fun y => by have := hi (t + 1) p (by omega) (by omega) (by omega) (by omega) (e.trans y); omega⟩
    · rw [if_neg z] at e
      exact ⟨⟨t, a0, by omega, e⟩, fun y => by have := hi t p (by omega) (by omega) (by omega) (by omega) (e.trans y); omega⟩
  · by_cases z : t < p
    · exact ⟨t, a0, by omega, by rw [hg t a0 (by omega), if_neg (by omega)]; exact e⟩
    · have : t ≠ p := fun y => ne (by rw [← e, y])
      exact ⟨t - 1, by omega, by omega, by rw [hg _ (by omega) (by omega), if_pos (by omega), show t - 1 + 1 = t by omega]; exact e⟩
  · rw [hg t a b, hg u c d] at e
    by_cases z : p ≤ t
    · rw [if_pos z] at e
      by_cases y : p ≤ u
      · rw [if_pos y] at e
        have := hi _ _ (by omega) (by omega) (by omega) (by omega) e; omega
      · rw [if_neg y] at e
        have := hi _ _ (by omega) (by omega) (by omega) (by omega) e; omega
    · rw [if_neg z] at e
      by_cases y : p ≤ u
      · rw [if_pos y] at e
        have := hi _ _ (by omega) (by omega) (by omega) (by omega) e; omega
      · rw [if_neg y] at e
        exact hi _ _ (by omega) (by omega) (by omega) (by omega) e
/-- one put behind all -/
theorem tst_add {f g : Int → Int} {n c : Int} (hn : 0 ≤ n) (hc : g n = c) (hg : ∀ t, 0 ≤ t → t < n → g t = f t) : (∀ a, tst g (n + 1) a ↔ tst f n a ∨ a = c) ∧ (inj1 f n → ¬ tst f n c → inj1 g (n + 1)) := by
  refine ⟨fun a => ⟨fun ⟨t, a0, a1, e⟩ => ?_, fun z => ?_⟩, fun hi nc t u a b c' d e => ?_⟩
  · by_cases z : t = n
    · rw [z, hc] at e; exact Or.inr e.symm
    · rw [hg t a0 (by omega)] at e
      exact Or.inl ⟨t, a0, by omega, e⟩
  · rcases z with ⟨t, a0, a1, e⟩ | z
    · exact ⟨t, a0, by omega, by rw [hg t a0 a1]; exact e⟩
    · exact ⟨n, hn, by omega, by rw [z]; exact hc⟩
  · by_cases z : t = n
    · by_cases y : u = n
      · omega
      · rw [z, hc, hg u c' (by omega)] at e
        exact absurd ⟨u, c', by omega, e.symm⟩ nc
    · by_cases y : u = n
      · rw [y, hc, hg t a (by omega)] at e
        exact absurd ⟨t, a, by omega, e⟩ nc
      · rw [hg t a (by omega), hg u c' (by omega)] at e
        exact hi t u a (by omega) c' (by omega) e
