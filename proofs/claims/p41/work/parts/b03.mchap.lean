/-! ===== a round of the model: its chapters ===== -/
theorem c_la_st {B : pT} {L : Int → Int} {E : Int → Int → Int} {ob : Prop} {Bo : pT} {Ro : c_R} {p0 c : Int} {W : Int → c_W} {W0 C : Int → Int} (hB : c_ok B) (hL : c_lines B W0 L C E) (hc : c ≤ 3) (h : c_chs B L E ob Bo Ro p0 W c) (n : Int) (n0 : 0 ≤ n) (n1 : n < c) : (B 0 n ≤ 0 → c_la W p0 (n + 1).toNat = c_la W p0 n.toNat) ∧ (0 < B 0 n → w_fi (W n) = c_la W p0 n.toNat + 1 + c_la W p0 n.toNat % 2 ∧ c_la W p0 (n + 1).toNat = w_fi (W n) + w_ct (W n) - 1 ∧ 0 < w_fi (W n) ∧ 1 ≤ w_ct (W n) ∧ w_ct (W n) ≤ 83) := by
  have k := h n n0 n1
  have e := k.2
  have u : c_la W p0 (n + 1).toNat = if 0 < w_fi (W n) then w_fi (W n) + w_ct (W n) - 1 else c_la W p0 n.toNat := by
    rw [show (n + 1).toNat = n.toNat + 1 by omega]
    show (if 0 < w_fi (W ((n.toNat : Nat) : Int)) then w_fi (W ((n.toNat : Nat) : Int)) + w_ct (W ((n.toNat : Nat) : Int)) - 1 else c_la W p0 n.toNat) = _
    rw [show ((n.toNat : Nat) : Int) = n by omega]
  unfold c_fst at e
  refine ⟨fun q => ?_, fun q => ?_⟩
  · rw [u, if_neg (by have := (k.1.1 q).1; omega)]
  · rw [if_neg (by omega)] at e
    have m := k.1.2 q
    have g := m.2.2.1
    have g67 : p_T (c_A B L E n) (B 0 n) (B 8 1) 8 0 ≤ 67 := (c_okB hB hL ⟨n0, by omega⟩).2.2
    exact ⟨e, by rw [u, if_pos m.1], m.1, by omega, by omega⟩
theorem c_la_bd2 {B : pT} {L : Int → Int} {E : Int → Int → Int} {ob : Prop} {Bo : pT} {Ro : c_R} {p0 c : Int} {W : Int → c_W} {W0 C : Int → Int} (hB : c_ok B) (hL : c_lines B W0 L C E) (hp : 0 ≤ p0) (hc : c ≤ 3) (h : c_chs B L E ob Bo Ro p0 W c) : ∀ n : Nat, (n : Int) ≤ c → p0 ≤ c_la W p0 n ∧ c_la W p0 n ≤ p0 + 85 * n
  | 0, _ => by show p0 ≤ p0 ∧ p0 ≤ _; omega
  | n + 1, hn => by
    have ih := c_la_bd2 hB hL hp hc h n (by omega)
    have st := c_la_st hB hL hc h n (by omega) (by omega)
    rw [show ((n : Int) + 1).toNat = n + 1 by omega, show ((n : Int)).toNat = n from rfl] at st
    by_cases q : B 0 n ≤ 0
    · rw [st.1 q]; omega
    · have := st.2 (by omega)
      rw [this.2.1]; omega
/-- what page p is -/
def m_kd (B : pT) (W : Int → c_W) (p0 c : Int) (M : qM) : Prop := ∀ p, 1 ≤ p → p ≤ c_la W p0 c.toNat → (p ≤ p0 ∧ M 105 0 p = 3) ∨ (∃ c', (0 ≤ c' ∧ c' < c) ∧ 0 < B 0 c' ∧ w_fi (W c') ≤ p ∧ p < w_fi (W c') + w_ct (W c') ∧ M 105 0 p = c') ∨ (p0 < p ∧ M 105 0 p = 4 ∧ ∀ c', 0 ≤ c' → c' < c → 0 < B 0 c' → ¬ (w_fi (W c') ≤ p ∧ p < w_fi (W c') + w_ct (W c')))
def fr204c (M M' : qM) : Prop := ∀ (k : Nat) (m s : Int), ¬ (m = 0 ∧ ((k = 11 ∧ 51 ≤ s ∧ s ≤ 58) ∨ (87 ≤ k ∧ k ≤ 116))) → M' k m s = M k m s
theorem m_old_fr {c wo co q0 : Int} {O : pT} {M M' : qM} (h : m_old M c O wo co q0) (hf : ∀ (k : Nat) (s : Int), (k = 11 ∧ s = 74) ∨ 117 ≤ k → M' k 0 s = M k 0 s) : m_old M' c O wo co q0 := by
  obtain ⟨o1, o2, o3, o4, o5, o6, o7, o8⟩ := h
  exact ⟨by rw [hf _ _ (by omega)]; exact o1, o2, by rw [hf _ _ (by omega)]; exact o3, fun k a b => by rw [hf _ _ (by omega), hf _ _ (by omega), hf _ _ (by omega), hf _ _ (by omega)]; exact o4 k a b, fun q => by rw [hf _ _ (by omega)] at q ⊢; exact o5 q, o6, fun k a b => by rw [hf _ _ (by omega)]; exact o7 k a b, fun q => by rw [hf _ _ (by omega)]; exact o8 q⟩
theorem m_om_fr {B Bo : pT} {Ro : c_R} {M M' : qM} (h : m_om B Bo Ro M) (hf : ∀ (k : Nat) (s : Int), (k = 11 ∧ 73 ≤ s ∧ s ≤ 76) ∨ 117 ≤ k ∨ k = 68 → M' k 0 s = M k 0 s) : m_om B Bo Ro M' := by
  obtain ⟨⟨o1, o2, o3⟩, o4, o5⟩ := h
  refine ⟨⟨by rw [hf _ _ (by omega)]; exact o1, by rw [hf _ _ (by omega)]; exact o2, by rw [hf _ _ (by omega)]; exact o3⟩, fun c a b => ?_, fun x a b q => by rw [hf _ _ (by omega), hf _ _ (by omega)]; exact o5 x a b q⟩
  obtain ⟨p1, p2, p3, p4⟩ := o4 c a b
  exact ⟨by rw [hf _ _ (by omega)]; exact p1, fun q q0 q1 => by rw [hf _ _ (by omega), hf _ _ (by omega), hf _ _ (by omega)]; exact p2 q q0 q1, fun q => by rw [hf _ _ (by omega)]; exact p3 q, fun q => m_old_fr (p4 q) (fun k s z => hf k s (by omega))⟩
theorem m_bk_fr {B : pT} {M M' : qM} (h : m_bk B M) (hf : ∀ (k : Nat) (s : Int), (k = 11 ∧ 1 ≤ s ∧ s ≤ 3) ∨ (64 ≤ k ∧ k ≤ 71) → M' k 0 s = M k 0 s) : m_bk B M' := by
  obtain ⟨b1, b2, b3, b4, b5, b6⟩ := h
  exact ⟨fun c a b => by rw [hf _ _ (by omega)]; exact b1 c a b, fun x a b => by rw [hf _ _ (by omega), hf _ _ (by omega), hf _ _ (by omega)]; exact b2 x a b, fun y a b => by rw [hf _ _ (by omega), hf _ _ (by omega), hf _ _ (by omega)]; exact b3 y a b, by rw [hf _ _ (by omega)]; exact b4, by rw [hf _ _ (by omega)]; exact b5, by rw [hf _ _ (by omega)]; exact b6⟩
