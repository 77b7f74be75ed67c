/-! ===== FacingleafModel.composes, whole ===== -/
theorem t215_to {d : Nat} {h : qH} (hS : qSe h) {B Bo : pT} {at' wd : Int → Int} {ob : Prop} {Ro : c_R} {Rq : Int → c_R} {b T : Int} {M : qM} {f : Int → qM → Prop} (u3 : qV)
    (hB : c_ok B) (hB2 : c_ok2 B) (hE : m_env B ob Bo Ro b M) (hH : m_hd B Rq at' wd 0 M) (hT : 0 ≤ T ∧ T < 12) (hch : c_chain B ob Bo Ro (c_p0 B) Rq T) (hgo : c_go B Rq T)
    (H : ∀ M' u3, fr215 M M' → m_hd B Rq at' wd T M' → b215_21 d h f b 0 u3 M') : b215_21 d h f b 0 u3 M := by
  refine q_upto (P := fun t => 0 ≤ t → ∀ M1 u3, fr215 M M1 → m_hd B Rq at' wd t M1 → b215_21 d h f b 0 u3 M1) (a := 0) (b := T) hT.1 (fun _ M1 u3 O1 h1 => H M1 u3 O1 h1) (fun t t0 t1 ih _ M1 u3 O1 h1 => ?_) (Int.le_refl _) M u3 (fun _ _ _ _ => rfl) hH
  refine t215_one hS u3 hB hB2 (m_env_fr hE O1) h1 ⟨t0, by omega⟩ (Or.inl ⟨-1, hch t t0 t1, hgo t t0 t1, fun M2 u4 O2 ed inv lim w77 past e20 e21 e23 bw w76 => ⟨fun q => by omega, fun _ _ _ => ?_, fun _ q => by omega⟩⟩)
  refine t215_147 hS (fun M3 u5 O3 v76 => ih (by omega) M3 u5 (fun k m s q => by rw [O3 k m s (by omega), O2 k m s q, O1 k m s q]) ⟨⟨m_brk_fr inv.1 (fun k s a b => O3 _ _ _ (by omega)), fun k => by rw [O3 _ _ _ (by omega)]; exact inv.2.1 k, fun s => by rw [O3 _ _ _ (by omega)]; exact inv.2.2 s⟩, ⟨fun i => ?_, fun s => by rw [O3 _ _ _ (by omega)]; exact lim.2 s⟩, fun y a b => by rw [v76 y a b]; exact w77 y a b, fun s y s0 s1 y0 y1 => by rw [O3 _ _ _ (by omega)]; exact past s y s0 s1 y0 y1, ⟨by rw [O3 _ _ _ (by omega)]; exact e20, by rw [O3 _ _ _ (by omega)]; exact e21, by rw [O3 _ _ _ (by omega)]; exact e23⟩, fun _ => ?_, fun q => by omega⟩)
  · by_cases q : 0 ≤ i ∧ i < 600
    · rw [v76 i q.1 q.2, w77 i q.1 q.2]; exact (c_Wq_b i).1
    · rw [O3 _ _ _ (by omega)]; exact lim.1 i
  · rw [show t + 1 - 1 = t by omega]
    exact m_brkW_fr bw (fun k s a b => O3 _ _ _ (by omega))
/-- the last round, of the widest -/
theorem t215_110 {d : Nat} {h : qH} (hS : qSe h) {B Bo : pT} {at' wd : Int → Int} {ob : Prop} {Ro : c_R} {Rq : Int → c_R} {b n v : Int} {M : qM} {f : Int → qM → Prop} (u3 : qV)
    (hB : c_ok B) (hB2 : c_ok2 B) (hE : m_env B ob Bo Ro b M) (hn : 1 ≤ n ∧ n ≤ 12) (hv : v = -1 ∨ (0 ≤ v ∧ v < n)) (inv : m_inv B M) (lim : m_lim M) (past : ∀ s y, 0 ≤ s → s < n → 0 ≤ y → y < 600 → M 78 0 (600 * s + y) = c_Wq B Rq s y) (e20 : M 11 0 20 = n) (e23 : M 11 0 23 = c_cnt B at' wd Rq n) (bw : m_brkW B (c_Wq B Rq (n - 1)) M)
    (H : (∃ R, c_out B (c_wide B Rq (if v < 0 then 0 else v) n) ob Bo Ro (c_p0 B) R ∧ ∀ M', fr215 M M' → m_edm B R (c_p0 B) M' → m_inv B M' → m_lim M' → m_brkW B (c_wide B Rq (if v < 0 then 0 else v) n) M' → M' 11 0 20 = n + 1 → M' 11 0 21 = 1 → M' 11 0 23 = c_cnt B at' wd Rq n + p_sum (c_rg B (c_at B at' n) (c_wd B wd Rq n) (c_wide B Rq (if v < 0 then 0 else v) n)) 30 → (∀ y, 0 ≤ y → y < 600 → M' 76 0 y = c_wide B Rq (if v < 0 then 0 else v) n y) → f 1 M') ∨ (c_fail B (c_wide B Rq (if v < 0 then 0 else v) n) ob Bo Ro (c_p0 B) ∧ ∀ M', fr215 M M' → m_inv B M' → m_lim M' → m_brkW B (c_wide B Rq (if v < 0 then 0 else v) n) M' → f 0 M')) : b215_110 d h f b v u3 M := by
  refine w215_110 hS (fun x hx => ?_)
  have hx2 : x = if v < 0 then 0 else v := by
    rw [hx]
    by_cases q : v = -1
    · rw [if_pos q, if_pos (by omega)]
    · rw [if_neg q, if_neg (by omega)]
  rw [← hx2] at H
  have hxb : 0 ≤ x ∧ x < n := by rw [hx]; split <;> omega
  have cb := c_cnt_b (B := B) (at' := at') (wd := wd) (Rq := Rq) (show 0 ≤ n by omega)
  refine t214 hS (n := n) ⟨hxb.1, hxb.2, hn.2⟩ e20 lim.2 (fun M1 O1 v76 M2 f2 => ?_)
  have O2 : ∀ (k : Nat) (m s : Int), ¬ (k = 11 ∧ m = 0 ∧ s = 21) → M2 k m s = M1 k m s := fun k m s q => by rw [f2]; unfold qU; rw [if_neg q]
  have v21 : M2 11 0 21 = 1 := by rw [f2, qU_s]
  have e20' : M2 11 0 20 = n := by rw [O2 _ _ _ (by omega), O1 _ _ _ (by omega)]; exact e20
  rw [e20']
  refine ⟨⟨by omega, by omega⟩, fun M3 f3 => ?_⟩
  have O3 : ∀ (k : Nat) (m s : Int), ¬ (k = 11 ∧ m = 0 ∧ s = 20) → M3 k m s = M2 k m s := fun k m s q => by rw [f3]; unfold qU; rw [if_neg q]
  have v20 : M3 11 0 20 = n + 1 := by rw [f3, qU_s]
  have OO : ∀ (k : Nat) (m s : Int), ¬ (k = 11 ∧ m = 0 ∧ (s = 20 ∨ s = 21)) → ¬ (k = 76 ∧ m = 0 ∧ 0 ≤ s ∧ s < 600) → M3 k m s = M k m s := fun k m s a b => by rw [O3 k m s (by omega), O2 k m s (by omega), O1 k m s b]
  have fr3 : fr215 M M3 := fun k m s q => OO k m s (by omega) (by omega)
  have w76 : ∀ y, 0 ≤ y → y < 600 → M3 76 0 y = c_wide B Rq x n y := fun y a b => by
    rw [O3 _ _ _ (by omega), O2 _ _ _ (by omega), v76 y a b]
    exact b_mx_cg (by omega) (fun r r0 r1 => past r y (by omega) r1 a b)
  have lim3 : m_lim M3 := ⟨fun i => by
    by_cases q : 0 ≤ i ∧ i < 600
    · rw [w76 i q.1 q.2]; exact (c_wide_b (by omega) i).1
    · rw [OO _ _ _ (by omega) (by omega)]; exact lim.1 i, fun s => by rw [OO _ _ _ (by omega) (by omega)]; exact lim.2 s⟩
  have rgs := m_rgs (at' := at') (wd := wd) (W := c_wide B Rq x n) (t := n) (M := M3) (Rq := Rq) (fun _ => m_brkW_fr bw (fun k s a b => OO _ _ _ (by omega) (by omega))) (fun q => by omega) (by omega)
  refine t204 hS (W := c_wide B Rq x n) hB hB2 (m_env_fr hE fr3) ⟨m_brk_fr inv.1 (fun k s a b => OO _ _ _ (by omega) (by omega)), fun k => by rw [OO _ _ _ (by omega) (by omega)]; exact inv.2.1 k, fun s => by rw [OO _ _ _ (by omega) (by omega)]; exact inv.2.2 s⟩ lim3.1 w76 (by rw [OO _ _ _ (by omega) (by omega), e23]; omega) ?_
  rcases H with ⟨R, out, H⟩ | ⟨fail, H⟩
  · refine Or.inl ⟨R, out, fun M4 O4 ed bw4 inv4 c23 => ⟨Or.inr rfl, H M4 (fun k m s q => by rw [O4 k m s (by omega)]; exact fr3 k m s q) ed inv4 ⟨fun i => by rw [O4 _ _ _ (by omega)]; exact lim3.1 i, fun s => by rw [O4 _ _ _ (by omega)]; exact lim3.2 s⟩ bw4 (by rw [O4 _ _ _ (by omega)]; exact v20) (by rw [O4 _ _ _ (by omega), O3 _ _ _ (by omega)]; exact v21) (by rw [c23, rgs, OO _ _ _ (by omega) (by omega), e23]) (fun y a b => by rw [O4 _ _ _ (by omega)]; exact w76 y a b)⟩⟩
  · exact Or.inr ⟨fail, fun M4 O4 inv4 bw4 => ⟨Or.inl rfl, H M4 (fun k m s q => by rw [O4 k m s (by omega)]; exact fr3 k m s q) inv4 ⟨fun i => by rw [O4 _ _ _ (by omega)]; exact lim3.1 i, fun s => by rw [O4 _ _ _ (by omega)]; exact lim3.2 s⟩ bw4⟩⟩
theorem t215 {d : Nat} {h : qH} (hS : qSe h) {B Bo : pT} {at' wd : Int → Int} {ob : Prop} {Ro : c_R} {b : Int} {M : qM} {f : Int → qM → Prop}
    (hB : c_ok B) (hB2 : c_ok2 B) (hE : m_env B ob Bo Ro b M) (hI : m_inv B M) (hl : m_lim M) (hat : ∀ x, 0 ≤ x → x < 30 → x % 10 < B 0 (x / 10) → B 1 x = 0 → M 79 0 x = at' x ∧ ∀ j, 0 ≤ j → j < B 3 x → M 80 0 (20 * x + j) = wd (20 * x + j))
    (H : (∃ W R res set' cnt, c_comp B ob Bo Ro (c_p0 B) at' wd W R res set' cnt ∧ ∀ M', fr215 M M' → m_edm B R (c_p0 B) M' → m_inv B M' → m_lim M' → m_brkW B W M' → M' 11 0 20 = res → M' 11 0 21 = set' → M' 11 0 23 = cnt → (∀ y, 0 ≤ y → y < 600 → M' 76 0 y = W y) → f 1 M') ∨ (∃ W, c_ncomp B ob Bo Ro (c_p0 B) W ∧ ∀ M', fr215 M M' → m_inv B M' → m_lim M' → m_brkW B W M' → f 0 M')) : e215 (d + 8) h b M f := by
  refine w215 hS (fun M1 f1 M2 f2 M3 f3 => ?_)
  have O3 : ∀ (k : Nat) (m s : Int), ¬ (k = 11 ∧ m = 0 ∧ (s = 20 ∨ s = 21 ∨ s = 23)) → M3 k m s = M k m s := fun k m s q => by rw [f3, f2, f1]; unfold qU; rw [if_neg (by omega), if_neg (by omega), if_neg (by omega)]
  have v20 : M3 11 0 20 = 0 := by rw [f3, qU_l (by decide), f2, qU_l (by decide), f1, qU_s]
  have v23 : M3 11 0 23 = 0 := by rw [f3, qU_l (by decide), f2, qU_s]
  have v21 : M3 11 0 21 = 0 := by rw [f3, qU_s]
  have fr3 : fr215 M M3 := fun k m s q => O3 k m s (by omega)
  have env3 := m_env_fr hE fr3
  refine t211 hS (K := c_K B) (V := B 5) (m_bk_wd hB2 env3.1) (fun M4 O4 v76 => w215_19 hS ?_)
  have e3 : M3 11 0 3 = B 8 2 := env3.1.2.2.2.2.2
  rw [e3] at v76
  have OO : ∀ (k : Nat) (m s : Int), ¬ (k = 11 ∧ m = 0 ∧ (s = 20 ∨ s = 21 ∨ s = 23)) → ¬ (k = 76 ∧ m = 0 ∧ 0 ≤ s ∧ s < 600) → M4 k m s = M k m s := fun k m s a b => by rw [O4 k m s b]; exact O3 k m s a
  have fr4 : fr215 M M4 := fun k m s q => OO k m s (by omega) (by omega)
  have env4 := m_env_fr hE fr4
  have hd4 : ∀ Rq, m_hd B Rq at' wd 0 M4 := fun Rq => by
    have w0 : ∀ y, 0 ≤ y → y < 600 → M4 76 0 y = c_Wq B Rq 0 y := fun y a b => by
      rw [v76 y a b]
      unfold c_Wq
      rw [if_pos (Int.le_refl _)]; rfl
    refine ⟨⟨m_brk_fr hI.1 (fun k s a b => OO _ _ _ (by omega) (by omega)), fun k => by rw [OO _ _ _ (by omega) (by omega)]; exact hI.2.1 k, fun s => by rw [OO _ _ _ (by omega) (by omega)]; exact hI.2.2 s⟩, ⟨fun i => ?_, fun s => by rw [OO _ _ _ (by omega) (by omega)]; exact hl.2 s⟩, w0, fun s y s0 s1 => by omega, ⟨by rw [O4 _ _ _ (by omega)]; exact v20, by rw [O4 _ _ _ (by omega)]; exact v21, by rw [O4 _ _ _ (by omega)]; exact v23⟩, fun q => absurd q (by decide), fun _ x a b c q => ?_⟩
    · by_cases q : 0 ≤ i ∧ i < 600
      · rw [w0 i q.1 q.2]; exact (c_Wq_b i).1
      · rw [OO _ _ _ (by omega) (by omega)]; exact hl.1 i
    · have := hat x a b c q
      exact ⟨by rw [OO _ _ _ (by omega) (by omega)]; exact this.1, fun j j0 j1 => by rw [OO _ _ _ (by omega) (by omega)]; exact this.2 j j0 j1⟩
  have frT : ∀ {N N' : qM}, fr215 M N → fr215 N N' → fr215 M N' := fun a b k m s q => by rw [b k m s q]; exact a k m s q
  have vb : ∀ {Rq : Int → c_R} {n v : Int}, c_first B Rq (n - 1) v → v = -1 ∨ (0 ≤ v ∧ v < n) := fun {Rq n v} hf => by
    unfold c_first at hf
    rw [show n - 1 + 1 = n by omega] at hf
    rcases hf with hf | hf
    · exact Or.inl hf.1
    · exact Or.inr hf.1
  rcases H with ⟨W, R, res, set', cnt, hc, H⟩ | ⟨W, hc, H⟩
  · rcases hc with ⟨Rq, r, hr, hch, hgo, hf, rfl, rfl, rfl, rfl, rfl⟩ | ⟨Rq, n, v, hn, hch, hgo, hf, hv, hv2, rfl, out, rfl, rfl, rfl⟩
    · refine t215_to hS _ hB hB2 env4 (hd4 Rq) (T := r) ⟨hr.1, hr.2⟩ (fun t a b => hch t a (by omega)) hgo (fun M5 u5 O5 h5 => ?_)
      exact t215_one hS _ hB hB2 (m_env_fr env4 O5) h5 ⟨hr.1, hr.2⟩ (Or.inl ⟨r, hch r hr.1 (by omega), hf, fun M6 u6 O6 ed inv lim w77 past e20 e21 e23 bw w76 => ⟨fun _ => H M6 (frT (frT fr4 O5) O6) ed inv lim bw e20 e21 e23 w76, fun q => absurd rfl q, fun q => absurd rfl q⟩⟩)
    · refine t215_to hS _ hB hB2 env4 (hd4 Rq) (T := n - 1) ⟨by omega, by omega⟩ (fun t a b => hch t a (by omega)) hgo (fun M5 u5 O5 h5 => ?_)
      refine t215_one hS _ hB hB2 (m_env_fr env4 O5) h5 ⟨by omega, by omega⟩ (Or.inl ⟨v, hch (n - 1) (by omega) (by omega), hf, fun M6 u6 O6 ed inv lim w77 past e20 e21 e23 bw w76 => ⟨fun q => absurd q hv, fun _ q q2 => by omega, fun _ _ => ?_⟩⟩)
      rw [show n - 1 + 1 = n by omega] at past e20 e23
      exact t215_110 hS u6 hB hB2 (m_env_fr env4 (fun k m s q => by rw [O6 k m s q, O5 k m s q])) hn (vb hf) inv lim past e20 e23 bw (Or.inl ⟨R, out, fun M7 O7 ed7 inv7 lim7 bw7 a1 a2 a3 a4 => H M7 (frT (frT (frT fr4 O5) O6) O7) ed7 inv7 lim7 bw7 a1 a2 a3 a4⟩)
  · rcases hc with ⟨Rq, r, hr, hch, hgo, hfl, rfl⟩ | ⟨Rq, n, v, hn, hch, hgo, hf, hv, hv2, hfl, rfl⟩
    · refine t215_to hS _ hB hB2 env4 (hd4 Rq) (T := r) ⟨hr.1, hr.2⟩ hch hgo (fun M5 u5 O5 h5 => ?_)
      exact t215_one hS _ hB hB2 (m_env_fr env4 O5) h5 ⟨hr.1, hr.2⟩ (Or.inr ⟨hfl, fun M6 O6 inv lim bw => H M6 (frT (frT fr4 O5) O6) inv lim bw⟩)
    · refine t215_to hS _ hB hB2 env4 (hd4 Rq) (T := n - 1) ⟨by omega, by omega⟩ (fun t a b => hch t a (by omega)) hgo (fun M5 u5 O5 h5 => ?_)
      refine t215_one hS _ hB hB2 (m_env_fr env4 O5) h5 ⟨by omega, by omega⟩ (Or.inl ⟨v, hch (n - 1) (by omega) (by omega), hf, fun M6 u6 O6 ed inv lim w77 past e20 e21 e23 bw w76 => ⟨fun q => absurd q hv, fun _ q q2 => by omega, fun _ _ => ?_⟩⟩)
      rw [show n - 1 + 1 = n by omega] at past e20 e23
      exact t215_110 hS u6 hB hB2 (m_env_fr env4 (fun k m s q => by rw [O6 k m s q, O5 k m s q])) hn (vb hf) inv lim past e20 e23 bw (Or.inr ⟨hfl, fun M7 O7 inv7 lim7 bw7 => H M7 (frT (frT (frT fr4 O5) O6) O7) inv7 lim7 bw7⟩)
