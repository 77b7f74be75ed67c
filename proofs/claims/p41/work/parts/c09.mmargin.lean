/-! ===== margins in the model ===== -/
theorem m_fl {B : pT} {A : pA} {c : Int} {M : qM} (hA : p_okB A (B 0 c)) (hc : 0 ≤ c ∧ c < 3) (hN : 0 < B 0 c) (hbk : m_bk B M) (hD : 8 ≤ B 8 1 ∧ B 8 1 ≤ 14) (h81 : ∀ k, 0 ≤ M 81 0 k ∧ M 81 0 k ≤ 1000) (hrep : ∀ i, 0 ≤ i → i < B 0 c → p_mrep A M c i) (hR : p_mR A c (p_SR A (B 0 c)) M) (hw : p_mw A c (B 0 c) 0 M) : ∀ f, 0 ≤ f → f < p_T A (B 0 c) (B 8 1) 8 2 → (0 ≤ M 95 0 (4 * c + f) ∧ M 95 0 (4 * c + f) < 600) ∧ p_T A (B 0 c) (B 8 1) 4 (f + 1) = p_T A (B 0 c) (B 8 1) 4 f + M 71 0 (M 95 0 (4 * c + f)) := by
  let N : qM := fun k m s => if k = 99 then p_bl A s else if k = 100 then p_fl A s else if k = 101 then p_nl A s else if k = 102 then p_ls A s - 1 else M k m s
  have O : ∀ (k : Nat) (m s : Int), ¬ (99 ≤ k ∧ k ≤ 102) → N k m s = M k m s := fun k m s q => by
    show (if k = 99 then p_bl A s else if k = 100 then p_fl A s else if k = 101 then p_nl A s else if k = 102 then p_ls A s - 1 else M k m s) = _
    rw [if_neg (by omega), if_neg (by omega), if_neg (by omega), if_neg (by omega)]
  have hT : g_mT (p_T A (B 0 c) (B 8 1)) c N := p_T_m hA hc ⟨by rw [O _ _ _ (by omega)]; exact hR.1, fun q a b => by
      have := hR.2 q a b
      rw [O _ _ _ (by omega), O _ _ _ (by omega), O _ _ _ (by omega), O _ _ _ (by omega)]
      exact ⟨this.1, this.2.1, this.2.2.1, this.2.2.2.1, fun w x y => by rw [O _ _ _ (by omega)]; exact this.2.2.2.2 w x y⟩⟩ (fun q _ _ => ⟨rfl, rfl, rfl, rfl⟩) ⟨by rw [O _ _ _ (by omega)]; exact hw.1, by rw [O _ _ _ (by omega)]; exact hw.2.1, fun i w a b c d => ⟨fun q => by rw [O _ _ _ (by omega)]; exact (hw.2.2 i w a b c d).1 q, fun q k k0 k1 => by rw [O _ _ _ (by omega), O _ _ _ (by omega)]; exact (hw.2.2 i w a b c d).2 q k k0 k1⟩⟩ (fun i a b => by
      obtain ⟨r1, r2, r3, r4, r5, r6⟩ := hrep i a b
      exact ⟨by rw [O _ _ _ (by omega)]; exact r1, by rw [O _ _ _ (by omega)]; exact r2, fun k => by rw [O _ _ _ (by omega)]; exact r3 k, by rw [O _ _ _ (by omega)]; exact r4, fun s a b k => by rw [O _ _ _ (by omega)]; exact r5 s a b k, fun w a b => by rw [O _ _ _ (by omega), O _ _ _ (by omega)]; exact r6 w a b⟩) (fun k => by rw [O _ _ _ (by omega)]; exact h81 k) (by rw [O _ _ _ (by omega)]; exact hbk.2.2.2.2.1)
  intro f f0 f1
  have t := hT.2.2.2.2.2.2.1 f f0 f1
  rw [O _ _ _ (by omega), O _ _ _ (by omega)] at t
  exact t
def mg_M (q : Int) (s : c_Mg) (M : qM) : Prop := M 11 0 99 = mg_e s ∧ M 11 0 96 = mg_n s ∧ (∀ i, 0 ≤ i → i < mg_n s → M 137 0 i = mg_o s i) ∧ M 11 0 100 = q ∧ M 11 0 101 = mg_p s q
