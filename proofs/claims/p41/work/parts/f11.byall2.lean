/-! ===== costByAll, wordsTo ===== -/
theorem c_fr77 {M M' : qM} (O : fr77 M M') : c_fr M M' := fun k m s q => O k m s (fun z => q (Or.inr (Or.inl z.1)))
theorem y_tT {n : Int} {B : pT} {en L : Int} {W : Int → Int} {R : c_R} {M : qM} (hr : c_rl n B M) (hx : c_mdx B en W R L M) {c : Int} (hc : 0 ≤ c ∧ c < 3) : g_tab (p_T (r_A B R c) (B 0 c) (B 8 1)) := p_T_tab (y_70 hr.1.2.1 hx hc).1 hr.1.2.1.2.2.2.2.2.2.2.1
