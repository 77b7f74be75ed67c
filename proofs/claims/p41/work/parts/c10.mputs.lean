/-! ===== FacingleafModel.putsAll, marginOf ===== -/
def fr249 (M M' : qM) : Prop := ∀ (k : Nat) (m s : Int), ¬ (m = 0 ∧ ((k = 11 ∧ 95 ≤ s ∧ s ≤ 101) ∨ k = 136 ∨ k = 137)) → M' k m s = M k m s
/-- lines and chapters of the round, in the model -/
def m_ed0 (B : pT) (R : c_R) (M : qM) : Prop := (∀ x, 0 ≤ x → x < 30 → x % 10 < B 0 (x / 10) → B 1 x = 0 → M 81 0 x = r_L R x ∧ M 83 0 x = r_C R x ∧ ∀ s, 0 ≤ s → s < r_L R x → M 82 0 (20 * x + s) = r_E R x s) ∧ ∀ c, 0 ≤ c → c < 3 → m_cd (r_A B R c) (B 0 c) (r_W R c) c M
theorem m_pages_fr {B : pT} {R : c_R} {M M' : qM} (hok : ∀ c, 0 ≤ c → c < 3 → p_okB (r_A B R c) (B 0 c) ∧ (0 < B 0 c → ∃ D, g_pages (p_T (r_A B R c) (B 0 c) D) (w_P (r_W R c)) (w_ct (r_W R c)) (w_wr (r_W R c)))) (h : m_ed0 B R M) (hf : ∀ (k : Nat) (s : Int), (81 ≤ k ∧ k ≤ 104) ∨ (114 ≤ k ∧ k ≤ 116) ∨ (105 ≤ k ∧ k ≤ 113 ∧ ∃ c, (0 ≤ c ∧ c < 3) ∧ 0 < B 0 c ∧ s ≤ w_fi (r_W R c) + w_ct (r_W R c) - 1) → M' k 0 s = M k 0 s) : m_ed0 B R M' := by
  obtain ⟨h1, h2⟩ := h
  refine ⟨fun x a b c q => ?_, fun c a b => ?_⟩
  · have := h1 x a b c q
    exact ⟨by rw [hf _ _ (Or.inl (by omega))]; exact this.1, by rw [hf _ _ (Or.inl (by omega))]; exact this.2.1, fun s s0 s1 => by rw [hf _ _ (Or.inl (by omega))]; exact this.2.2 s s0 s1⟩
  · by_cases N0 : 0 < B 0 c
    · refine m_cd_fr (pm := w_fi (r_W R c) + w_ct (r_W R c) - 1) (hok c a b).1 (hok c a b).2 (h2 c a b) (fun _ => Int.le_refl _) (fun k s q => hf k s ?_)
      by_cases z : 105 ≤ k ∧ k ≤ 113
      · exact Or.inr (Or.inr ⟨z.1, z.2, c, ⟨a, b⟩, N0, by omega⟩)
      · by_cases z2 : 114 ≤ k
        · exact Or.inr (Or.inl (by omega))
        · exact Or.inl (by omega)
    · obtain ⟨z1, z2, z3, z4⟩ := (h2 c a b).1 (by omega)
      exact ⟨fun _ => ⟨by rw [hf _ _ (Or.inr (Or.inl (by omega)))]; exact z1, by rw [hf _ _ (Or.inr (Or.inl (by omega)))]; exact z2, by rw [hf _ _ (Or.inl (by omega))]; exact z3, by rw [hf _ _ (Or.inr (Or.inl (by omega)))]; exact z4⟩, fun z => absurd z N0⟩
