theorem bal {R : Prop} {P : Int → Prop} {t : Int} {b c : Bool} (h0 : 0 ≤ t) (hb : b = true ↔ R ∧ ∀ q, 0 ≤ q → q < t → P q) (hc : c = true ↔ P t) : (b && c) = true ↔ R ∧ ∀ q, 0 ≤ q → q < t + 1 → P q := by
  rw [Bool.and_eq_true, hb, hc]
  constructor
  · intro ⟨⟨r, z⟩, y⟩
    refine ⟨r, fun q a d => ?_⟩
    by_cases e : q = t
    · rw [e]; exact y
    · exact z q a (by omega)
  · intro ⟨r, z⟩
    exact ⟨⟨r, fun q a d => z q a (by omega)⟩, z t h0 (by omega)⟩
theorem M_even {d : Nat} {h : xH} {Q : Int → xH → Prop} (hd : 1 ≤ d) (hW : WFp (h 1)) (hq : ∀ b : Bool, (b = true ↔ ev (h 1)) → Q (b2i b) h) : cI wdM d mX8_even [.inr (.inr 0)] h Q := by
  obtain ⟨w1, w2, w3, w4, w5, w6, w7, w8⟩ := id hW
  have l3 : ∀ k : Int, k ≤ h 1 0 → 0 ≤ k → ∀ b : Bool, (b = true ↔ ((∀ p, 0 ≤ p → p < h 1 1 → evP (h 1) p) ∧ (∀ t, 0 ≤ t → t < h 1 2 → evT (h 1) t)) ∧ ∀ j, 0 ≤ j → j < k → evF (h 1) j) → gI wdM d mX8_even 128 [some (.inr (.inr 0)), some (.inl (b2i b)), some (.inl k)] h Q := by
    refine dn ?_ ?_
    · intro _ b hb
      have hb' : b = true ↔ ev (h 1) := by rw [hb]; unfold ev; rw [and_assoc]
      have := hq b hb'
      refine sg_X8_even_128 ⟨⟨inI_s (by omega) (by omega), inI_s (by omega) (by omega)⟩, fun _ => ⟨b2i_in _, fun z => ?_, fun z => ?_⟩, fun z => absurd z (by omega)⟩
      · cases b with
        | true => exact absurd z (by decide)
        | false => exact this
      · cases b with
        | false => exact absurd rfl z
        | true => exact this
    · intro k hk ih k0 b hb
      have a1 := w6 k k0 (by omega)
      have a2 := w6 (h 1 0 - 1 - k) (by omega) (by omega)
      refine sg_X8_even_128 ?_
      rw [show 125 + h 1 0 - 1 - k = 125 + (h 1 0 - 1 - k) by omega]
      refine ⟨⟨inI_s (by omega) (by omega), inI_s (by omega) (by omega)⟩, fun z => absurd z (by omega), fun _ => ⟨by omega, by omega, ⟨inI_s (by omega) (by omega), inI_s (by omega) (by omega)⟩, fun z => ?_, fun z => ?_⟩⟩
      · rw [show (0 : Int) = b2i false from rfl, xand_b]
        exact ih (by omega) _ (bal k0 hb ⟨fun y => (by cases y), fun y => absurd y z⟩)
      · rw [show (1 : Int) = b2i true from rfl, xand_b]
        exact ih (by omega) _ (bal k0 hb ⟨fun _ => z, fun _ => rfl⟩)
  have l2 : ∀ t : Int, t ≤ h 1 2 → 0 ≤ t → ∀ b : Bool, (b = true ↔ (∀ p, 0 ≤ p → p < h 1 1 → evP (h 1) p) ∧ ∀ j, 0 ≤ j → j < t → evT (h 1) j) → gI wdM d mX8_even 64 [some (.inr (.inr 0)), some (.inl (b2i b)), some (.inl t)] h Q := by
    refine dn ?_ ?_
    · intro _ b hb
      exact sg_X8_even_64 hd ⟨⟨inI_s (by omega) (by omega), inI_s (by omega) (by omega)⟩, fun _ => l3 0 (by omega) (by omega) b (hb.trans ⟨fun z => ⟨z, fun j a c => by omega⟩, fun z => z.1⟩), fun z => absurd z (by omega)⟩
    · intro t ht ih t0 b hb
      have a := w7 t t0 ht
      refine sg_X8_even_64 hd ⟨⟨inI_s (by omega) (by omega), inI_s (by omega) (by omega)⟩, fun z => absurd z (by omega), fun _ => ⟨by omega, ⟨by omega, inI_s (by omega) (by omega)⟩, by omega, ⟨by omega, inI_s (by omega) (by omega)⟩, M_hasTurn hW (inI_s (by omega) (by omega)) (fun c hc => ?_)⟩⟩
      rw [xand_b]
      exact ih (by omega) _ (bal t0 hb hc)
  have l1 : ∀ p : Int, p ≤ h 1 1 → 0 ≤ p → ∀ b : Bool, (b = true ↔ True ∧ ∀ j, 0 ≤ j → j < p → evP (h 1) j) → gI wdM d mX8_even 4 [some (.inr (.inr 0)), some (.inl (b2i b)), some (.inl p)] h Q := by
    refine dn ?_ ?_
    · intro _ b hb
      exact sg_X8_even_4 hd ⟨⟨inI_s (by omega) (by omega), inI_s (by omega) (by omega)⟩, fun _ => l2 0 (by omega) (by omega) b (hb.trans ⟨fun z => ⟨z.2, fun j a c => by omega⟩, fun z => ⟨trivial, z.1⟩⟩), fun z => absurd z (by omega)⟩
    · intro p hp ih p0 b hb
      have a := w4 p p0 hp
      refine sg_X8_even_4 hd ⟨⟨inI_s (by omega) (by omega), inI_s (by omega) (by omega)⟩, fun z => absurd z (by omega), fun _ => ⟨by omega, by omega, by omega, M_hasPin hW (inI_s (by omega) (by omega)) (inI_s (by omega) (by omega)) (inI_s (by omega) (by omega)) (fun c hc => ?_)⟩⟩
      rw [xand_b]
      exact ih (by omega) _ (bal p0 hb hc)
  exact sg_X8_even_0 (l1 0 (by omega) (by omega) true ⟨fun _ => ⟨trivial, fun j a b => by omega⟩, fun _ => rfl⟩)
theorem Q_even {h m : xH} (hR : Rel h m) : QI mX7_even mX8_even [] h m := by
  obtain ⟨⟨hW, -⟩, hP, -⟩ := id hR
  have key : ∀ b : Bool, (b = true ↔ ev (m 1)) → QI mX7_even mX8_even [] h m := fun b hb => by
    refine ⟨b2i b, b2i_in _, ?_, ?_⟩
    · refine sg_X7_even_0 (by omega) (C_isEven (by omega) hW.1 hP (fun z => ⟨?_, keepC_rf h⟩) (fun z => ⟨?_, keepC_rf h⟩))
      · rw [hb.mpr z]; rfl
      · cases b with
        | false => rfl
        | true => exact absurd (hb.mp rfl) z
    · refine M_even (by omega) hW.1 (fun c hc => ⟨?_, keepM_rf m⟩)
      rw [Bool.eq_iff_iff.mpr (hc.trans hb.symm)]
  by_cases z : ev (m 1)
  · exact key true ⟨fun _ => z, fun _ => rfl⟩
  · exact key false ⟨fun y => (by cases y), fun y => absurd y z⟩
/-- the pattern, flipped -/
def mir (s : Int → Int) : Int → Int := fun j => if 35 ≤ j ∧ j < 35 + s 1 then s 0 - 2 - s j else if 137 ≤ j ∧ j < 137 + s 2 then flc (s 0) (s j) else if 125 ≤ j ∧ j < 125 + s 0 then s (125 + (s 0 - 1 - (j - 125))) else s j
theorem M_mirrorL {d : Nat} {m : xH} {Q : Int → xH → Prop} (hW : WFp (m 1)) (hq : ∀ m', kp [1] m m' → m' 1 = mir (m 1) → Q (m 1 1) m') : gI wdM d mX8_mirror 14 [some (.inr (.inr 0)), some (.inl 0), none] m Q := by
  obtain ⟨w1, w2, w3, w4, w5, w6, w7, w8⟩ := id hW
  generalize hs : m 1 = s at *
  have l3 : ∀ k : Int, k ≤ (s 0 + 1) / 2 → 0 ≤ k → ∀ m1 : xH, kp [1] m m1 → (∀ j, m1 1 j = if 35 ≤ j ∧ j < 35 + s 1 then s 0 - 2 - s j else if 137 ≤ j ∧ j < 137 + s 2 then flc (s 0) (s j) else if (125 ≤ j ∧ j < 125 + k) ∨ (125 + s 0 - k ≤ j ∧ j < 125 + s 0) then s (125 + (s 0 - 1 - (j - 125))) else s j) → gI wdM d mX8_mirror 126 [some (.inr (.inr 0)), some (.inl k), none] m1 Q := by
    refine dn ?_ ?_
    · intro _ m1 k hj
      have e0 : m1 1 0 = s 0 := by rw [hj, if_neg (by omega), if_neg (by omega), if_neg (by omega)]
      have e1 : m1 1 1 = s 1 := by rw [hj, if_neg (by omega), if_neg (by omega), if_neg (by omega)]
      refine sg_X8_mirror_126 ?_
      rw [e0, e1]
      refine ⟨⟨inI_s (by omega) (by omega), inI_s (by omega) (by omega)⟩, fun _ => hq m1 k ?_, fun z => absurd z (by omega)⟩
      funext j
      rw [hj]
      unfold mir
      split
      · rfl
      · split
        · rfl
        · by_cases z : 125 ≤ j ∧ j < 125 + s 0
          · rw [if_pos z, if_pos (by omega)]
          · rw [if_neg z, if_neg (by omega)]
    · intro k hk ih k0 m1 km hj
      have e0 : m1 1 0 = s 0 := by rw [hj, if_neg (by omega), if_neg (by omega), if_neg (by omega)]
      refine sg_X8_mirror_126 ?_
      rw [xu_ne (show (0 : Int) ≠ 125 + k by omega), e0]
      refine ⟨⟨inI_s (by omega) (by omega), inI_s (by omega) (by omega)⟩, fun z => absurd z (by omega), fun _ => ⟨by omega, by omega, by omega, by omega, ih (by omega) _ (kp_tr km (kp_tr (kp_xu (by decide)) (kp_xu (by decide)))) (fun j => ?_)⟩⟩
      have g1 : m1 1 (125 + k) = s (125 + k) := by rw [hj, if_neg (by omega), if_neg (by omega), if_neg (by omega)]
      have g2 : m1 1 (125 + s 0 - 1 - k) = s (125 + s 0 - 1 - k) := by rw [hj, if_neg (by omega), if_neg (by omega), if_neg (by omega)]
      rw [g1, g2]
      by_cases z1 : j = 125 + s 0 - 1 - k
      · rw [z1, xu_eq, if_neg (by omega), if_neg (by omega), if_pos (by omega), show 125 + (s 0 - 1 - (125 + s 0 - 1 - k - 125)) = 125 + k by omega]
      · rw [xu_ne z1]
        by_cases z2 : j = 125 + k
        · rw [z2, xu_eq, if_neg (by omega), if_neg (by omega), if_pos (by omega), show 125 + (s 0 - 1 - (125 + k - 125)) = 125 + s 0 - 1 - k by omega]
        · rw [xu_ne z2, hj]
          split
          · rfl
          · split
            · rfl
            · by_cases z : (125 ≤ j ∧ j < 125 + k) ∨ (125 + s 0 - k ≤ j ∧ j < 125 + s 0)
              · rw [if_pos z, if_pos (by omega)]
              · rw [if_neg z, if_neg (by omega)]
  have l2 : ∀ t : Int, t ≤ s 2 → 0 ≤ t → ∀ m1 : xH, kp [1] m m1 → (∀ j, m1 1 j = if 35 ≤ j ∧ j < 35 + s 1 then s 0 - 2 - s j else if 137 ≤ j ∧ j < 137 + t then flc (s 0) (s j) else s j) → gI wdM d mX8_mirror 59 [some (.inr (.inr 0)), some (.inl t), none] m1 Q := by
    refine dn ?_ ?_
    · intro _ m1 k hj
      have e2 : m1 1 2 = s 2 := by rw [hj, if_neg (by omega), if_neg (by omega)]
      refine sg_X8_mirror_59 ?_
      rw [e2]
      refine ⟨⟨inI_s (by omega) (by omega), inI_s (by omega) (by omega)⟩, fun _ => l3 0 (by omega) (by omega) m1 k (fun j => ?_), fun z => absurd z (by omega)⟩
      rw [hj]
      split
      · rfl
      · split
        · rfl
        · rw [if_neg (by omega)]
    · intro t ht ih t0 m1 k hj
      have a := w7 t t0 ht
      have e0 : m1 1 0 = s 0 := by rw [hj, if_neg (by omega), if_neg (by omega)]
      have e2 : m1 1 2 = s 2 := by rw [hj, if_neg (by omega), if_neg (by omega)]
      have et : m1 1 (137 + t) = s (137 + t) := by rw [hj, if_neg (by omega), if_neg (by omega)]
      refine sg_X8_mirror_59 ?_
      rw [e2, et, e0]
      refine ⟨⟨inI_s (by omega) (by omega), inI_s (by omega) (by omega)⟩, fun z => absurd z (by omega), fun _ => ⟨by omega, ⟨by omega, inI_s (by omega) (by omega)⟩, by omega, ⟨by omega, inI_s (by omega) (by omega)⟩, by omega, ih (by omega) _ (kp_tr k (kp_xu (by decide))) (fun j => ?_)⟩⟩
      by_cases z : j = 137 + t
      · rw [z, xu_eq, if_neg (by omega), if_pos (by omega)]; rfl
      · rw [xu_ne z, hj]
        split
        · rfl
        · by_cases y : 137 ≤ j ∧ j < 137 + t
          · rw [if_pos y, if_pos (by omega)]
          · rw [if_neg y, if_neg (by omega)]
  have l1 : ∀ p : Int, p ≤ s 1 → 0 ≤ p → ∀ m1 : xH, kp [1] m m1 → (∀ j, m1 1 j = if 35 ≤ j ∧ j < 35 + p then s 0 - 2 - s j else s j) → gI wdM d mX8_mirror 14 [some (.inr (.inr 0)), some (.inl p), none] m1 Q := by
    refine dn ?_ ?_
    · intro _ m1 k hj
      have e1 : m1 1 1 = s 1 := by rw [hj, if_neg (by omega)]
      refine sg_X8_mirror_14 ?_
      rw [e1]
      refine ⟨⟨inI_s (by omega) (by omega), inI_s (by omega) (by omega)⟩, fun _ => l2 0 (by omega) (by omega) m1 k (fun j => ?_), fun z => absurd z (by omega)⟩
      rw [hj]
      split
      · rfl
      · rw [if_neg (by omega)]
    · intro p hp ih p0 m1 k hj
      have e0 : m1 1 0 = s 0 := by rw [hj, if_neg (by omega)]
      have e1 : m1 1 1 = s 1 := by rw [hj, if_neg (by omega)]
      have ep : m1 1 (35 + p) = s (35 + p) := by rw [hj, if_neg (by omega)]
      refine sg_X8_mirror_14 ?_
      rw [e1, ep, e0]
      refine ⟨⟨inI_s (by omega) (by omega), inI_s (by omega) (by omega)⟩, fun z => absurd z (by omega), fun _ => ⟨by omega, by omega, ih (by omega) _ (kp_tr k (kp_xu (by decide))) (fun j => ?_)⟩⟩
      by_cases z : j = 35 + p
      · rw [z, xu_eq, if_pos (by omega)]
      · rw [xu_ne z, hj]
        by_cases y : 35 ≤ j ∧ j < 35 + p
        · rw [if_pos y, if_pos (by omega)]
        · rw [if_neg y, if_neg (by omega)]
  exact l1 0 (by omega) (by omega) m (kp_rf _ _) (fun j => by rw [hs, if_neg (by omega)])
theorem C_flip {d : Nat} {h : xH} {s : Int → Int} {f : Nat} {Q : xH → Prop} (hd : 2 ≤ d) (hW : WFp s) (hR : RPat h 1 2 3 4 5 s) (q5 : h 1 1 = f) (qf : f < 2 ^ (s 0).toNat)
    (hq : ∀ h' (F : Nat), kp [1, 3, 5] h h' → (∀ i, i ≠ 1 → h' 1 i = h 1 i) → (∀ p, 0 ≤ p → p < s 1 → h' 3 p = s 0 - 2 - s (35 + p)) → (∀ t u, 0 ≤ t → t < u → u < s 2 → h' 5 t < h' 5 u) → (∀ a, tst (h' 5) (s 2) a ↔ tst (fun t => flT (s 0) (h 5 t)) (s 2) a) → h' 1 1 = F → F < 2 ^ (s 0).toNat → (∀ j, j < (s 0).toNat → F.testBit j = f.testBit ((s 0).toNat - 1 - j)) → Q h') : cV wdC d mX3_flip [.inr (.inr 1)] h Q := by
  obtain ⟨w1, w2, w3, w4, w5, w6, w7, w8⟩ := id hW
  obtain ⟨q1, q2, q3, q4, -, q6, q7, q8⟩ := id hR
  have eW : s 0 = ((s 0).toNat : Nat) := by omega
  have l2 : ∀ t : Int, t ≤ s 2 → 0 ≤ t → ∀ h1 : xH, kp [3, 5] h h1 → (∀ p, 0 ≤ p → p < s 1 → h1 3 p = s 0 - 2 - s (35 + p)) → (∀ u, h1 5 u = if 0 ≤ u ∧ u < t then flT (s 0) (h 5 u) else h 5 u) → gV wdC d mX3_flip 37 [some (.inr (.inr 1)), some (.inl t)] h1 Q := by
    refine dn ?_ ?_
    · intro _ h1 k hp hj
      have e1 : h1 1 = h 1 := k 1 (by decide)
      have e6 : h1 1 6 = s 2 := by rw [e1]; exact q3
      have ej : ∀ u, 0 ≤ u → u < s 2 → h1 5 u = flT (s 0) (h 5 u) := fun u a b => by rw [hj, if_pos ⟨a, b⟩]
      refine sg_X3_flip_37 (by omega) ?_
      rw [e6]
      refine ⟨⟨inI_s (by omega) (by omega), inI_s (by omega) (by omega)⟩, fun _ => C_sortTurns e6 w3 (fun t a b => ?_) (fun t u a b c d e => ?_) (fun h2 k2 g1 g2 => ?_), fun z => absurd z (by omega)⟩
      · rw [ej t a b]
        have := flT_in (w := s 0) (by omega) (q6 t a b)
        omega
      · rw [ej t a b, ej u c d] at e
        have e := flT_inj (by omega) (q6 t a b) (q6 u c d) e
        rcases (show t < u ∨ t = u ∨ u < t by omega) with z | z | z
        · have := q7 t u a z d; omega
        · exact z
        · have := q7 u t c z b; omega
      · have e21 : h2 1 = h 1 := by rw [k2 1 (by decide)]; exact e1
        refine C_flippedFill (W := (s 0).toNat) (by rw [e21, q1]; exact eW) (by omega) (by rw [e21]; exact q5) qf (fun F hFl hb => ?_)
        refine hq _ F (kp_tr (kp_mono k (by decide)) (kp_tr (kp_mono k2 (by decide)) (kp_xu (by decide)))) (fun i hi => by rw [xu_ne hi, e21]) (fun p a b => ?_) ?_ (fun a => ?_) xu_eq hFl hb
        · rw [xu_cn (by decide), k2 3 (by decide)]; exact hp p a b
        · rw [xu_oth (by decide)]; exact g1
        · rw [xu_oth (by decide), g2 a]
          exact tst_congr ej
    · intro t ht ih t0 h1 k hp hj
      have e1 : h1 1 = h 1 := k 1 (by decide)
      have e6 : h1 1 6 = s 2 := by rw [e1]; exact q3
      have et : h1 5 t = h 5 t := by rw [hj, if_neg (by omega)]
      refine sg_X3_flip_37 (by omega) ?_
      rw [e6, et]
      refine ⟨⟨inI_s (by omega) (by omega), inI_s (by omega) (by omega)⟩, fun z => absurd z (by omega), fun _ => ⟨by omega, C_flippedTurn (by omega) (by rw [e1]; exact q1) w1 (q6 t t0 ht) ⟨by omega, ih (by omega) _ (kp_tr k (kp_xu (by decide))) (fun p a b => by rw [xu_cn (by decide)]; exact hp p a b) (fun u => ?_)⟩⟩⟩
      by_cases z : u = t
      · rw [z, xu_eq, if_pos (by omega)]
      · rw [xu_ne z, hj]
        by_cases y : 0 ≤ u ∧ u < t
        · rw [if_pos y, if_pos (by omega)]
        · rw [if_neg y, if_neg (by omega)]
  have l1 : ∀ p : Int, p ≤ s 1 → 0 ≤ p → ∀ h1 : xH, kp [3] h h1 → (∀ q, 0 ≤ q → q < s 1 → h1 3 q = if q < p then s 0 - 2 - s (35 + q) else s (35 + q)) → gV wdC d mX3_flip 2 [some (.inr (.inr 1)), some (.inl p)] h1 Q := by
    refine dn ?_ ?_
    · intro _ h1 k hj
      have e1 : h1 1 = h 1 := k 1 (by decide)
      refine sg_X3_flip_2 ?_
      rw [e1, q2]
      exact ⟨⟨inI_s (by omega) (by omega), inI_s (by omega) (by omega)⟩, fun _ => l2 0 (by omega) (by omega) h1 (kp_mono k (by decide)) (fun p a b => by rw [hj p a b, if_pos b]) (fun u => by rw [if_neg (by omega), k 5 (by decide)]), fun z => absurd z (by omega)⟩
    · intro p hp ih p0 h1 k hj
      have e1 : h1 1 = h 1 := k 1 (by decide)
      have ep := hj p p0 hp
      rw [if_neg (by omega)] at ep
      refine sg_X3_flip_2 ?_
      rw [e1, q2, q1, ep]
      refine ⟨⟨inI_s (by omega) (by omega), inI_s (by omega) (by omega)⟩, fun z => absurd z (by omega), fun _ => ⟨by omega, by omega, ih (by omega) _ (kp_tr k (kp_xu (by decide))) (fun q a b => ?_)⟩⟩
      by_cases z : q = p
      · rw [z, xu_eq, if_pos (by omega)]
      · rw [xu_ne z, hj q a b]
        by_cases y : q < p
        · rw [if_pos y, if_pos (by omega)]
        · rw [if_neg y, if_neg (by omega)]
  exact sg_X3_flip_0 (l1 0 (by omega) (by omega) h (kp_rf _ _) (fun q a b => by rw [if_neg (by omega)]; exact (q4 q a b).2.1))
