/-! ===== a round of the model: its chapters ===== -/
theorem c_la_st {B : pT} {L : Int → Int} {E : Int → Int → Int} {ob : Prop} {Bo : pT} {Ro : c_R} {p0 c : Int} {W : Int → c_W} {W0 C : Int → Int} (hB : c_ok B) (hL : c_lines B W0 L C E) (hc : c ≤ 3) (h : c_chs B L E ob Bo Ro p0 W c) (n : Int) (n0 : 0 ≤ n) (n1 : n < c) : (B 0 n ≤ 0 → c_la W p0 (n + 1).toNat = c_la W p0 n.toNat) ∧ (0 < B 0 n → w_fi (W n) = c_la W p0 n.toNat + 1 + c_la W p0 n.toNat % 2 ∧ c_la W p0 (n + 1).toNat = w_fi (W n) + w_ct (W n) - 1 ∧ 0 < w_fi (W n) ∧ 1 ≤ w_ct (W n) ∧ w_ct (W n) ≤ 83) := by
  have k := h n n0 n1
  have e := k.2
  have u : c_la W p0 (n + 1).toNat = if 0 < w_fi (W n) then w_fi (W n) + w_ct (W n) - 1 else c_la W p0 n.toNat := by
    rw [show (n + 1).toNat = n.toNat + 1 by omega]
    show (if 0 < w_fi (W ((n.toNat : Nat) : Int)) then w_fi (W ((n.toNat : Nat) : Int)) + w_ct (W ((n.toNat : Nat) : Int)) - 1 else c_la W p0 n.toNat) = _
    rw [show ((n.toNat : Nat) : Int) = n by omega]
  unfold c_fst at e
  refine ⟨fun q => ?_, fun q => ?_⟩
  · rw [u, if_neg (by have := (k.1.1 q).1; omega)]
  · rw [if_neg (by omega)] at e
    have m := k.1.2 q
    have g := m.2.2.1
    have g67 : p_T (c_A B L E n) (B 0 n) (B 8 1) 8 0 ≤ 67 := (c_okB hB hL ⟨n0, by omega⟩).2.2
    exact ⟨e, by rw [u, if_pos m.1], m.1, by omega, by omega⟩
theorem c_la_bd2 {B : pT} {L : Int → Int} {E : Int → Int → Int} {ob : Prop} {Bo : pT} {Ro : c_R} {p0 c : Int} {W : Int → c_W} {W0 C : Int → Int} (hB : c_ok B) (hL : c_lines B W0 L C E) (hp : 0 ≤ p0) (hc : c ≤ 3) (h : c_chs B L E ob Bo Ro p0 W c) : ∀ n : Nat, (n : Int) ≤ c → p0 ≤ c_la W p0 n ∧ c_la W p0 n ≤ p0 + 85 * n
  | 0, _ => by show p0 ≤ p0 ∧ p0 ≤ _; omega
  | n + 1, hn => by
    have ih := c_la_bd2 hB hL hp hc h n (by omega)
    have st := c_la_st hB hL hc h n (by omega) (by omega)
    rw [show ((n : Int) + 1).toNat = n + 1 by omega, show ((n : Int)).toNat = n from rfl] at st
    by_cases q : B 0 n ≤ 0
    · rw [st.1 q]; omega
    · have := st.2 (by omega)
      rw [this.2.1]; omega
/-- what page p is -/
def m_kd (B : pT) (W : Int → c_W) (p0 c : Int) (M : qM) : Prop := ∀ p, 1 ≤ p → p ≤ c_la W p0 c.toNat → (p ≤ p0 ∧ M 105 0 p = 3) ∨ (∃ c', (0 ≤ c' ∧ c' < c) ∧ 0 < B 0 c' ∧ w_fi (W c') ≤ p ∧ p < w_fi (W c') + w_ct (W c') ∧ M 105 0 p = c') ∨ (p0 < p ∧ M 105 0 p = 4 ∧ ∀ c', 0 ≤ c' → c' < c → 0 < B 0 c' → ¬ (w_fi (W c') ≤ p ∧ p < w_fi (W c') + w_ct (W c')))
def fr204c (M M' : qM) : Prop := ∀ (k : Nat) (m s : Int), ¬ (m = 0 ∧ ((k = 11 ∧ 51 ≤ s ∧ s ≤ 58) ∨ (87 ≤ k ∧ k ≤ 116))) → M' k m s = M k m s
theorem m_old_fr {c wo co q0 : Int} {O : pT} {M M' : qM} (h : m_old M c O wo co q0) (hf : ∀ (k : Nat) (s : Int), (k = 11 ∧ s = 74) ∨ 117 ≤ k → M' k 0 s = M k 0 s) : m_old M' c O wo co q0 := by
  obtain ⟨o1, o2, o3, o4, o5, o6, o7, o8⟩ := h
  exact ⟨by rw [hf _ _ (by omega)]; exact o1, o2, by rw [hf _ _ (by omega)]; exact o3, fun k a b => by rw [hf _ _ (by omega), hf _ _ (by omega), hf _ _ (by omega), hf _ _ (by omega)]; exact o4 k a b, fun q => by rw [hf _ _ (by omega)] at q ⊢; exact o5 q, o6, fun k a b => by rw [hf _ _ (by omega)]; exact o7 k a b, fun q => by rw [hf _ _ (by omega)]; exact o8 q⟩
theorem m_om_fr {B Bo : pT} {Ro : c_R} {M M' : qM} (h : m_om B Bo Ro M) (hf : ∀ (k : Nat) (s : Int), (k = 11 ∧ 73 ≤ s ∧ s ≤ 76) ∨ 117 ≤ k ∨ k = 68 → M' k 0 s = M k 0 s) : m_om B Bo Ro M' := by
  obtain ⟨⟨o1, o2, o3⟩, o4, o5⟩ := h
  refine ⟨⟨by rw [hf _ _ (by omega)]; exact o1, by rw [hf _ _ (by omega)]; exact o2, by rw [hf _ _ (by omega)]; exact o3⟩, fun c a b => ?_, fun x a b q => by rw [hf _ _ (by omega), hf _ _ (by omega)]; exact o5 x a b q⟩
  obtain ⟨p1, p2, p3, p4⟩ := o4 c a b
  exact ⟨by rw [hf _ _ (by omega)]; exact p1, fun q q0 q1 => by rw [hf _ _ (by omega), hf _ _ (by omega), hf _ _ (by omega)]; exact p2 q q0 q1, fun q => by rw [hf _ _ (by omega)]; exact p3 q, fun q => m_old_fr (p4 q) (fun k s z => hf k s (by omega))⟩
theorem m_bk_fr {B : pT} {M M' : qM} (h : m_bk B M) (hf : ∀ (k : Nat) (s : Int), (k = 11 ∧ 1 ≤ s ∧ s ≤ 3) ∨ (64 ≤ k ∧ k ≤ 71) → M' k 0 s = M k 0 s) : m_bk B M' := by
  obtain ⟨b1, b2, b3, b4, b5, b6⟩ := h
  exact ⟨fun c a b => by rw [hf _ _ (by omega)]; exact b1 c a b, fun x a b => by rw [hf _ _ (by omega), hf _ _ (by omega), hf _ _ (by omega)]; exact b2 x a b, fun y a b => by rw [hf _ _ (by omega), hf _ _ (by omega), hf _ _ (by omega)]; exact b3 y a b, by rw [hf _ _ (by omega)]; exact b4, by rw [hf _ _ (by omega)]; exact b5, by rw [hf _ _ (by omega)]; exact b6⟩
/-- one chapter of the model's round -/
theorem t204_one {d : Nat} {h : qH} (hS : qSe h) {B Bo : pT} {L W0 C : Int → Int} {E : Int → Int → Int} {ob : Prop} {Ro : c_R} {b c la : Int} {M : qM} {f : Int → qM → Prop} (u2 u5 : qV)
    (hB : c_ok B) (hL : c_lines B W0 L C E) (hc : 0 ≤ c ∧ c < 3) (hbk : m_bk B M) (hl : ∀ x, 0 ≤ x → x < 30 → x % 10 < B 0 (x / 10) → B 1 x = 0 → M 81 0 x = L x ∧ ∀ s, 0 ≤ s → s < L x → M 82 0 (20 * x + s) = E x s) (hb81 : ∀ k, 0 ≤ M 81 0 k ∧ M 81 0 k ≤ 1000) (h88 : ∀ s, -1000 ≤ M 88 0 s ∧ M 88 0 s ≤ 1000)
    (hold : (¬ ob ∧ b = 0) ∨ (ob ∧ b ≠ 0 ∧ m_om B Bo Ro M ∧ c_oldok B L E Bo Ro)) (hla : M 11 0 58 = la) (hla2 : 0 ≤ la ∧ la ≤ 289) (hN : 0 < B 0 c)
    (H1 : ∀ M' P' c', fr204c M M' → (∀ c', c' ≠ c → 0 ≤ c' → c' < 3 → m_ag c' la M M') → (∀ p, p ≤ la → M' 105 0 p = M 105 0 p) → M' 11 0 58 = la + la % 2 + c' → g_made (p_T (c_A B L E c) (B 0 c) (B 8 1)) (c_keep B (c_A B L E c) ob Bo Ro c (la + la % 2 + 1)) P' c' (M' 116 0 c) → m_pg P' c' (la + la % 2) c M' → M' 114 0 c = la + la % 2 + 1 → M' 115 0 c = la + la % 2 + c' → p_mR (c_A B L E c) c (p_SR (c_A B L E c) (B 0 c)) M' → p_mw (c_A B L E c) c (B 0 c) 0 M' → (la % 2 = 1 → M' 105 0 (la + 1) = 4) → (∀ s, -1000 ≤ M' 88 0 s ∧ M' 88 0 s ≤ 1000) → b204_176 d h f b u2 1 (c + 1) u5 M')
    (H0 : g_none (p_T (c_A B L E c) (B 0 c) (B 8 1)) (c_keep B (c_A B L E c) ob Bo Ro c (la + la % 2 + 1)) → ∀ M', fr204c M M' → (∀ s, -1000 ≤ M' 88 0 s ∧ M' 88 0 s ≤ 1000) → b204_176 d h f b u2 0 (c + 1) u5 M') : b204_176 d h f b u2 1 c u5 M := by
  have hok := c_okB hB hL hc
  have hD := hB.2.2.2.2.2.2.2.1
  have n10 := hok.1.1
  generalize hA : c_A B L E c = A at *
  have hwas : ob → c_was A (r_A Bo Ro c) (B 0 c) (Bo 0 c) (Bo 8 1) (c_ss B Bo c) (w_P (r_W Ro c)) (w_ct (r_W Ro c)) (w_wr (r_W Ro c)) := fun z => by
    rcases hold with hold | hold
    · exact absurd z hold.1
    · rw [← hA]; exact hold.2.2.2 c hc.1 hc.2
  have rep : ∀ N : qM, (∀ (k : Nat) (s : Int), (k = 11 ∧ 1 ≤ s ∧ s ≤ 3) ∨ (64 ≤ k ∧ k ≤ 71) ∨ k = 81 ∨ k = 82 → N k 0 s = M k 0 s) → ∀ i, 0 ≤ i → i < B 0 c → p_mrep A N c i := fun N hN i i0 i1 => by
    rw [← hA]
    refine m_rep (m_bk_fr hbk (fun k s q => hN k s (by omega))) hc ⟨i0, by omega⟩ (fun q => ?_)
    have := hl (10 * c + i) (by omega) (by omega) (by rw [show (10 * c + i) / 10 = c by omega]; omega) q
    exact ⟨by rw [hN _ _ (by omega)]; exact this.1, fun s a b => by rw [hN _ _ (by omega)]; exact this.2 s a b⟩
  -- the chapter behind its rows, p0 the last page ahead of it
  have go : ∀ (M3 : qM) (u3 : qV), (∀ (k : Nat) (m s : Int), ¬ (m = 0 ∧ ((k = 11 ∧ s = 58) ∨ (105 ≤ k ∧ k ≤ 113 ∧ la < s) ∨ (k = 87 ∧ s = c) ∨ (88 ≤ k ∧ k ≤ 91 ∧ 70 * c ≤ s ∧ s < 70 * c + 70) ∨ (k = 93 ∧ 200 * c ≤ s ∧ s < 200 * c + 200))) → M3 k m s = M k m s) → M3 11 0 58 = la + la % 2 → (la % 2 = 1 → M3 105 0 (la + 1) = 4) → p_mR A c (p_SR A (B 0 c)) M3 → (∀ s, -1000 ≤ M3 88 0 s ∧ M3 88 0 s ≤ 1000) → b204_217 d h f b u2 u3 c u5 M3 := by
    intro M3 u3 O3 e58 e4 R3 b88
    have hbk3 : m_bk B M3 := m_bk_fr hbk (fun k s q => O3 _ _ _ (by omega))
    have om3 : ob → m_om B Bo Ro M3 := fun z => by
      rcases hold with hold | hold
      · exact absurd z hold.1
      · exact m_om_fr hold.2.2.1 (fun k s q => O3 _ _ _ (by omega))
    have keepm := m_keep (b := b) (p0 := la + la % 2) hok.1 hc R3 hbk3 (by omega) (ob := ob) (Bo := Bo) (Ro := Ro) (by
      rcases hold with hold | hold
      · exact Or.inl hold
      · exact Or.inr ⟨hold.1, hold.2.1, om3 hold.1, hwas hold.1⟩)
    have hco : ∃ co q0, co ≤ 100 ∧ (b ≠ 0 → M3 11 0 73 ≠ 0 → m_old M3 c (w_P (r_W Ro c)) (w_wr (r_W Ro c)) co q0 ∧ g_old (w_P (r_W Ro c)) (w_wr (r_W Ro c)) ∨ M3 118 0 c ≠ la + la % 2 + 1) := by
      rcases hold with hold | hold
      · exact ⟨0, 0, by decide, fun z => absurd hold.2 z⟩
      · have ow := hwas hold.1
        have oc := (om3 hold.1).2.1 c hc.1 hc.2
        by_cases q : 0 < Bo 0 c
        · have pg := (ow.2.2.2.2.2 q).1
          have t67 : p_T (r_A Bo Ro c) (Bo 0 c) (Bo 8 1) 8 0 ≤ 67 := ow.1.2.2
          exact ⟨w_ct (r_W Ro c), w_fi (r_W Ro c) - 1, by omega, fun _ _ => Or.inl ⟨oc.2.2.2 q, (c_was_old ow).1⟩⟩
        · exact ⟨0, 0, by decide, fun _ _ => Or.inr (by rw [(oc.2.2.1 (by omega)).1]; omega)⟩
    obtain ⟨co, q0, hco1, hco2⟩ := hco
    refine w204_217 hS (t202 hS (A := A) (cnt := B 0 c) (D := B 8 1) (O := w_P (r_W Ro c)) (P := fun _ _ => 0) (wo := w_wr (r_W Ro c)) (co := co) (q0 := q0) (p0 := la + la % 2) hok hD hc hN (rep M3 (fun k s q => O3 _ _ _ (by omega))) (fun k => by rw [O3 _ _ _ (by omega)]; exact hb81 k) R3 hbk3.2.2.2.2.1 e58 (by omega) hco2 hco1 (fun r _ _ => b88 _) (fun hb k k0 k1 hs => ?_) (fun M4 P4 c4 O4 mP4 made4 e114 e115 mw4 mS4 => ⟨⟨by omega, by omega⟩, ?_⟩) (fun none4 M4 O4 => ⟨⟨by omega, by omega⟩, ?_⟩))
    · rcases hold with hold | hold
      · exact absurd hold.2 hb
      · have ow := hwas hold.1
        exact c_was_page hok.1 ow ⟨k0, k1⟩ (fun r r0 r1 => (m_same_row hok.1 ow.1.1 hc R3 (om3 hold.1) r r0).mp (hs r r0 r1))
    · refine H1 M4 P4 c4 (fun k m s q => ?_) (fun c' ne c0' c3' k s q => ?_) (fun p hp => ?_) mP4.1 (g_made_mono keepm made4) mP4.2 e114 e115 ⟨?_, fun q q0 q1 => ?_⟩ mw4 (fun q => ?_) (fun s => ?_)
      · rw [O4 k m s (by omega), O3 k m s (by omega)]
      · rw [O4 k 0 s (by omega), O3 k 0 s (by omega)]
      · rw [O4 _ _ _ (by omega), O3 _ _ _ (by omega)]
      · rw [O4 _ _ _ (by omega)]; exact R3.1
      · have := R3.2 q q0 q1
        rw [O4 _ _ _ (by omega), O4 _ _ _ (by omega), O4 _ _ _ (by omega), O4 _ _ _ (by omega)]
        exact ⟨this.1, this.2.1, this.2.2.1, this.2.2.2.1, fun w x y => by rw [O4 _ _ _ (by omega)]; exact this.2.2.2.2 w x y⟩
      · rw [O4 _ _ _ (by omega)]; exact e4 q
      · rw [O4 _ _ _ (by omega)]; exact b88 s
    · exact H0 (g_none_mono keepm none4) M4 (fun k m s q => by rw [O4 k m s (by omega), O3 k m s (by omega)]) (fun s => by rw [O4 _ _ _ (by omega)]; exact b88 s)
  refine w204_176 hS ⟨fun _ => ⟨fun q => absurd q (by decide), fun _ => ⟨hc, fun q => ?_, fun _ => ?_⟩⟩, fun q => absurd hc.2 q⟩
  · rw [hbk.1 c hc.1 hc.2] at q; omega
  · refine t180v hS hok.1 hc (hbk.1 c hc.1 hc.2) (rep M (fun _ _ _ => rfl)) (fun M1 O1 R1 b1 => ?_)
    have e58 : M1 11 0 58 = la := by rw [O1 _ _ _ (by omega)]; exact hla
    have b88 : ∀ s, -1000 ≤ M1 88 0 s ∧ M1 88 0 s ≤ 1000 := fun s => by
      rcases b1 s with z | z
      · rw [z]; exact h88 s
      · omega
    rw [e58]
    refine ⟨hla2.1, fun q => ?_, fun q => ?_⟩
    · refine t196 hS (p := la + 1) (by rw [e58]) ⟨by omega, by omega⟩ (fun M2 O2 e1 e2 => ?_)
      refine go M2 _ (fun k m s z => by rw [O2 k m s (by omega), O1 k m s (by omega)]) (by omega) (fun _ => e2) ⟨by rw [O2 _ _ _ (by omega)]; exact R1.1, fun q q0 q1 => ?_⟩ (fun s => by rw [O2 _ _ _ (by omega)]; exact b88 s)
      have := R1.2 q q0 q1
      rw [O2 _ _ _ (by omega), O2 _ _ _ (by omega), O2 _ _ _ (by omega), O2 _ _ _ (by omega)]
      exact ⟨this.1, this.2.1, this.2.2.1, this.2.2.2.1, fun w x y => by rw [O2 _ _ _ (by omega)]; exact this.2.2.2.2 w x y⟩
    · exact go M1 _ (fun k m s z => O1 k m s (by omega)) (by omega) (fun z => absurd z q) R1 b88
