/-! ===== marginOf's loop ===== -/
theorem t250_40 {d : Nat} {h : qH} (hS : qSe h) {B : pT} {W : Int → Int} {ob : Prop} {Bo : pT} {Ro R : c_R} {p0 c q : Int} {u2 u3 : qV} {M : qM} {f : Int → qM → Prop} (hB : c_ok B) (hp : 0 ≤ p0 ∧ p0 ≤ 100) (hout : c_out B W ob Bo Ro p0 R) (hbk : m_bk B M) (hm : m_ed0 B R M) (h81 : ∀ k, 0 ≤ M 81 0 k ∧ M 81 0 k ≤ 1000) (hc : 0 ≤ c ∧ c < 3) (hN : 0 < B 0 c) (h95 : M 11 0 95 = 0) (h100 : M 11 0 100 = q) (h101 : M 11 0 101 = -1)
    (H : ∀ M', fr249 M M' → f (mg_p (c_mgn B R c (w_wr (r_W R c)).toNat) q) M') : b250_40 d h f c u2 u3 (w_fi (r_W R c)) M := by
  have fb := c_fi_bd hB hp hout hc
  have pgs := ((hout.2 c hc.1 hc.2).1.2 hN).2.2
  have pg1 := pgs.1
  have ok : ∀ c, 0 ≤ c → c < 3 → p_okB (r_A B R c) (B 0 c) ∧ (0 < B 0 c → ∃ D, g_pages (p_T (r_A B R c) (B 0 c) D) (w_P (r_W R c)) (w_ct (r_W R c)) (w_wr (r_W R c))) := fun c a b => ⟨c_okB hB hout.1 ⟨a, b⟩, fun z => ⟨B 8 1, ((hout.2 c a b).1.2 z).2.2⟩⟩
  have cd := (hm.2 c hc.1 hc.2).2 hN
  refine q_upto (P := fun k => 0 ≤ k → ∀ N, fr249 M N → (k ≤ w_wr (r_W R c) → N 11 0 95 = mg_n (c_mgn B R c k.toNat) ∧ (∀ i, 0 ≤ i → i < mg_n (c_mgn B R c k.toNat) → N 136 0 i = mg_o (c_mgn B R c k.toNat) i) ∧ N 11 0 100 = q ∧ N 11 0 101 = mg_p (c_mgn B R c k.toNat) q) → (w_wr (r_W R c) ≤ k → N 11 0 101 = mg_p (c_mgn B R c (w_wr (r_W R c)).toNat) q) → b250_40 d h f c u2 u3 (w_fi (r_W R c) + k) N) (a := 0) (b := w_ct (r_W R c)) fb.2.1.1 (fun _ N O s1 s2 => ?_) (fun k k0 k1 ih _ N O s1 s2 => ?_) (Int.le_refl _) M (fun _ _ _ _ => rfl) (fun _ => ⟨h95, fun i a b => by have : i < 0 := b; omega, h100, h101⟩) (fun z => by omega) |> fun z => by
    rw [show w_fi (r_W R c) + 0 = w_fi (r_W R c) by omega] at z; exact z
  · refine w250_40 hS ⟨hc, fun z => by rw [O 115 _ _ (by omega), cd.2.2.2.1] at z; omega, fun _ => ?_⟩
    rw [s2 (by omega)]
    exact H N O
  · have pg := (cd.2.1 k k0 k1).1
    rw [show w_fi (r_W R c) - 1 + 1 + k = w_fi (r_W R c) + k by omega] at pg
    have up := g_pages_up pgs k k0 k1
    refine w250_40 hS ⟨hc, fun _ => ⟨⟨by omega, by omega⟩, fun z => ⟨⟨by omega, by omega⟩, ?_⟩, fun z => ?_⟩, fun z => by rw [O 115 _ _ (by omega), cd.2.2.2.1] at z; omega⟩
    · rw [O 107 _ _ (by omega), pg.2.2.1] at z
      have kw : w_wr (r_W R c) ≤ k := Classical.byContradiction fun y => by have := up.2.2.1 (by omega); omega
      rw [show w_fi (r_W R c) + k + 1 = w_fi (r_W R c) + (k + 1) by omega]
      exact ih (by omega) N O (fun y => by omega) (fun _ => s2 kw)
    · rw [O 107 _ _ (by omega), pg.2.2.1] at z
      have kw : k < w_wr (r_W R c) := Classical.byContradiction fun y => by have := up.2.2.2 (by omega); have e : p_T (c_A B (r_L R) (r_E R) c) (B 0 c) (B 8 1) 8 0 = p_T (c_A B (r_L R) (r_E R) c) (B 0 c) (B 8 1) 8 0 := rfl; have := pgs.2.2.2.1 k (by omega) (by omega); omega
      obtain ⟨a1, a2, a3, a4⟩ := s1 (by omega)
      have t := t249 (d := d) hS (B := B) (R := R) (p0 := p0) (c := c) (q := q) (k := k.toNat) (M := N) (F := fun M114 => qIn (w_fi (r_W R c) + k + 1) ∧ b250_40 d h f c u2 u3 (w_fi (r_W R c) + k + 1) M114) hB hp hout (m_bk_fr hbk (fun k s z => O _ _ _ (by omega))) (m_pages_fr ok hm (fun k s z => O _ _ _ (by rcases z with z | z | z <;> omega))) (fun k => by rw [O _ _ _ (by omega)]; exact h81 k) hc hN (by omega) a1 a2 a3 a4 (fun M' O' z1 z2 z3 z4 => ⟨⟨by omega, by omega⟩, ?_⟩)
      · rw [show w_fi (r_W R c) + ((k.toNat : Nat) : Int) = w_fi (r_W R c) + k by omega] at t
        exact t
      · rw [show w_fi (r_W R c) + k + 1 = w_fi (r_W R c) + (k + 1) by omega]
        refine ih (by omega) M' (fun k m s q => by rw [O' k m s q]; exact O k m s q) (fun _ => ?_) (fun y => ?_)
        · rw [show (k + 1).toNat = k.toNat + 1 by omega]; exact ⟨z1, z2, z3, z4⟩
        · rw [show (w_wr (r_W R c)).toNat = k.toNat + 1 by omega]; exact z4
