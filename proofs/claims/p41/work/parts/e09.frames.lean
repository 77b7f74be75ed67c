/-! ===== the relation under changes of places ===== -/
theorem c_cg {P : qM → Prop} (hP : ∀ M, P (c_X M) = P M) {M M' : qM} (h : c_fr M M') (p : P M) : P M' := by
  rw [← hP M', c_fr_X h, hP M]; exact p
theorem c_prt_fr {B Bo : pT} {Wo : Int → Int} {Ro : c_R} {Lo e' : Int} {N M M' : qM} (f : c_fr M M') (h : c_prt B Bo Wo Ro Lo e' N M) : c_prt B Bo Wo Ro Lo e' N M' := by
  obtain ⟨h1, h2, h3, h4, h5, h6, h7, h8⟩ := h
  exact ⟨h1, h2, h3, c_cg (fun _ => x_10) f h4, c_cg (fun _ => x_13) f h5, h6, h7, c_cg (P := fun M => ∀ x, 0 ≤ x → x < 30 → x % 10 < Bo 0 (x / 10) → (M 68 0 x = M 120 0 x ↔ B 7 x = Bo 7 x)) (fun _ => rfl) f h8⟩
theorem c_pr_fr {B : pT} {M M' : qM} (f : c_fr M M') (h : c_pr B M) : c_pr B M' := by
  rcases h with h | ⟨Bo, Wo, Ro, Lo, e', N, h1, h2, h3, h4⟩
  · exact Or.inl (c_cg (P := fun M => M 10 0 9 = 0 ∧ M 11 0 73 = 0) (fun _ => rfl) f h)
  · exact Or.inr ⟨Bo, Wo, Ro, Lo, e', N, c_cg (P := fun M => M 10 0 9 = e' + 1) (fun _ => rfl) f h1, h2, c_prt_fr f h3, c_cg (P := fun M => ∀ x, 0 ≤ x → x < 30 → x % 10 < Bo 0 (x / 10) → M 120 0 x ≤ M 68 0 x ∧ Bo 7 x ≤ M 10 0 14) (fun _ => rfl) f h4⟩
theorem c_mdx_fr {B : pT} {en : Int} {W : Int → Int} {R : c_R} {L : Int} {M M' : qM} (f : c_fr M M') (h : c_mdx B en W R L M) : c_mdx B en W R L M' := by
  obtain ⟨h1, h2, h3, h4, h5, h6, h7⟩ := h
  exact ⟨c_cg (P := fun M => M 10 0 8 = en + 1) (fun _ => rfl) f h1, h2, h3, c_cg (fun _ => x_10) f h4, c_cg (fun _ => x_11) f h5, c_cg (fun _ => x_12) f h6, c_cg (P := fun M => M 2 0 9 = M 11 0 23 ∧ M 2 0 10 = M 11 0 21 ∧ (M 2 0 10 = 0 ∨ M 2 0 10 = 1)) (fun _ => rfl) f h7⟩
theorem c_md_fr {B : pT} {M M' : qM} (f : c_fr M M') (h : c_md B M) : c_md B M' := by
  rcases h with h | ⟨h1, h2, en, W, R, L, h3⟩
  · exact Or.inl (c_cg (P := fun M => M 10 0 13 = 0 ∧ M 11 0 22 = 0) (fun _ => rfl) f h)
  · have := c_cg (P := fun M => M 10 0 13 = 1 ∧ M 11 0 22 = 1) (fun _ => rfl) f ⟨h1, h2⟩
    exact Or.inr ⟨this.1, this.2, en, W, R, L, c_mdx_fr f h3⟩
theorem c_ser_up {n n' : Int} {B : pT} {M : qM} (hn : n ≤ n') (h : c_ser n B M) : c_ser n' B M := ⟨⟨h.1.1, by have := h.1.2; omega⟩, h.2.1, fun x a b => ⟨(h.2.2 x a b).1, by have := (h.2.2 x a b).2; omega⟩⟩
/-- an answer: only scratch has changed -/
theorem c_rl_fr {n : Int} {B : pT} {M M' : qM} (f : c_fr M M') (h : c_rl n B M) : c_rl n B M' := by
  obtain ⟨h1, ⟨a1, a2, a3⟩, ⟨b1, b2, b3, b4⟩, h4, h5, h6, h7⟩ := h
  exact ⟨h1, ⟨c_cg (fun _ => x_1) f a1, c_cg (fun _ => x_2) f a2, c_cg (fun _ => x_3) f a3⟩, ⟨c_cg (fun _ => x_4) f b1, c_cg (fun _ => x_5) f b2, c_cg (fun _ => x_6) f b3, c_cg (fun _ => x_7) f b4⟩, c_cg (fun _ => x_8) f h4, c_cg (fun _ => x_9) f h5, c_pr_fr f h6, c_md_fr f h7⟩
theorem c_rl_up {n : Int} {B : pT} {M : qM} (hn : n < 512) (h : c_rl n B M) : c_rl (n + 1) B M := ⟨⟨⟨by have := h.1.1.1; omega, by omega⟩, h.1.2⟩, h.2.1, h.2.2.1, c_ser_up (by omega) h.2.2.2.1, h.2.2.2.2⟩
/-- what the law asks of a pair of calls: mc is the model's call -/
def p_ok (n : Int) (mc : qM → (Int → qM → Prop) → Prop) (v : Int) (M : qM) : Prop := ∀ M', M' = qU M 138 0 0 v → mc M' (fun b N => N 11 0 0 = 0 ∧ b = v ∧ N 138 0 0 = v ∧ c_Rel n N)
def p_no (n : Int) (mc : qM → (Int → qM → Prop) → Prop) (k : Int) (M : qM) : Prop := mc M (fun _ N => N 11 0 0 = k ∧ c_Rel n N)
theorem c_fr_out {M : qM} {v : Int} : c_fr M (qU M 138 0 0 v) := fun k m s q => by
  unfold qU
  rw [if_neg (fun z => q (Or.inl z.1))]
theorem c_fr_11 {M : qM} {s v : Int} (h : s = 0 ∨ (51 ≤ s ∧ s ≤ 57) ∨ 95 ≤ s) : c_fr M (qU M 11 0 s v) := fun k m s' q => by
  unfold qU
  rw [if_neg (fun z => q (Or.inr (Or.inr (Or.inr (Or.inr (Or.inr (Or.inr ⟨z.1, by rw [z.2.2]; exact h⟩)))))))]
theorem c_fr_0 {M : qM} : c_fr M M := fun _ _ _ _ => rfl
