/-! ===== headOf, onPage ===== -/
theorem y_N {B : pT} {en L : Int} {W : Int → Int} {R : c_R} {M : qM} (hB : c_ok B) (h : c_mdx B en W R L M) {c p : Int} (hc : 0 ≤ c ∧ c < 3) (hp : w_fi (r_W R c) ≤ p ∧ p < w_fi (r_W R c) + w_ct (r_W R c)) : 0 < B 0 c ∧ (M 106 0 p = g_bf (w_P (r_W R c)) 0 (p - w_fi (r_W R c)) ∧ M 107 0 p = w_P (r_W R c) 0 (p - w_fi (r_W R c)) - g_bf (w_P (r_W R c)) 0 (p - w_fi (r_W R c)) ∧ M 109 0 p = w_P (r_W R c) 1 (p - w_fi (r_W R c)) - g_bf (w_P (r_W R c)) 1 (p - w_fi (r_W R c)) ∧ M 111 0 p = w_P (r_W R c) 2 (p - w_fi (r_W R c)) - g_bf (w_P (r_W R c)) 2 (p - w_fi (r_W R c)) ∧ M 112 0 p = w_P (r_W R c) 3 (p - w_fi (r_W R c)) ∧ M 113 0 p = w_P (r_W R c) 4 (p - w_fi (r_W R c))) ∧ (0 ≤ p - w_fi (r_W R c) ∧ p - w_fi (r_W R c) < w_ct (r_W R c)) ∧ (∀ j, 0 ≤ j → j < w_ct (r_W R c) → (0 ≤ g_bf (w_P (r_W R c)) 0 j ∧ g_bf (w_P (r_W R c)) 0 j ≤ w_P (r_W R c) 0 j ∧ w_P (r_W R c) 0 j ≤ p_SR (r_A B R c) (B 0 c)) ∧ (0 ≤ w_P (r_W R c) 0 j ∧ w_P (r_W R c) 0 j ≤ 70) ∧ (0 ≤ w_P (r_W R c) 1 j ∧ w_P (r_W R c) 1 j ≤ 4) ∧ 0 ≤ w_P (r_W R c) 2 j ∧ w_P (r_W R c) 2 j ≤ 12) := by
  obtain ⟨ob, B1, R1, out⟩ := h.2.2.1
  have N0 : 0 < B 0 c := Classical.byContradiction fun z => by
    have := (y_mk hB h hc).1 (by omega); omega
  have cd := (y_cd h hc).2 N0
  have pg := (cd.2.1 (p - w_fi (r_W R c)) (by omega) (by omega)).1
  rw [show w_fi (r_W R c) - 1 + 1 + (p - w_fi (r_W R c)) = p by omega] at pg
  have ok := (y_70 hB h hc)
  refine ⟨N0, ⟨pg.2.1, pg.2.2.1, pg.2.2.2.2.1, pg.2.2.2.2.2.2.1, pg.2.2.2.2.2.2.2.1, pg.2.2.2.2.2.2.2.2⟩, ⟨by omega, by omega⟩, fun j j0 j1 => ?_⟩
  have b := c_pgb hB out hc j j0 j1
  have o1 := ok.1.1.2.2.1
  have o2 := ok.1.1.2.2.2.1
  exact ⟨b.2.1, by omega, by omega, by omega⟩
theorem y125 {d d' : Nat} {h : qH} (hS : qSe h) {n p b : Int} {B : pT} {M : qM} (hn : n < 512) (hr : c_rl n B M) : e125 (d + 3) h p b M (p_ok (n + 1) (e246 (d' + 2) h p b)) (p_ex (n + 1) (e246 (d' + 2) h p b) 0 2 1) := by
  have y := (y_b hr).2.2.1
  obtain ⟨e0, h8, he⟩ := hr.2.2.1.2.2.2
  refine w125 hS (t137 hS h8 (by omega) (fun q => t138 hS (fun m => ?_) (fun m => Or.inr (Or.inl ⟨rfl, by decide, y_ms_un hn hr (m_246 hS 0 hn hr (fun M1 f1 _ z => absurd (by rw [f1 11 0 22 (by unfold c_scr; omega)]; exact y.mp m) z)) ((y_pq hr h8).mp q) m⟩))) (fun q => Or.inr (Or.inr ⟨rfl, by decide, y_ms_no hn hr (m_246 hS 0 hn hr (fun _ _ _ _ z => absurd ((y_pq hr h8).mpr z) q)) (fun z => q ((y_pq hr h8).mpr z))⟩)))
  have Q := (y_pq hr h8).mp q
  obtain ⟨en, W, R, L, hx⟩ := y_mdx hr m
  have hB := hr.1.2.1
  have e : M 10 0 8 - 1 = en := by have := hx.1; omega
  refine ⟨fun z => by omega, fun _ => ?_, fun z => by omega⟩
  rw [e]
  refine t27 hS (fi := fun c => w_fi (r_W R c)) (ct := fun c => w_ct (r_W R c)) (y_8 hB hx) (fun v hv => ?_)
  have t := y_tot hB hx
  have Q2 := Q.2 (fun z => m (y.mpr z))
  have k105 : ∀ M1, c_fr M M1 → M1 105 0 p = v := fun M1 f1 => by
    obtain ⟨ob, B1, R1, out⟩ := hx.2.2.1
    exact u_kind hB out hx.2.1 hx.2.2.2.1 (c_mdx_fr f1 hx).2.2.2.2.2.1 ⟨Q.1, by omega⟩ hv
  refine ⟨fun v3 => ⟨fun z => by omega, fun _ => ?_, fun z => by omega⟩, fun v3 => ?_⟩
  · have r1 : (0 ≤ v ∧ v < 3) ∧ (w_fi (r_W R v) ≤ p ∧ p < w_fi (r_W R v) + w_ct (r_W R v)) := by
      rcases hv with z | z | z
      · omega
      · exact z.2
      · have := z.2.2; split at this <;> omega
    have yn := y_N hB hx r1.1 r1.2
    have ch := y_ch hx r1.1
    have ok := y_70 hB hx r1.1
    have mk := (y_mk hB hx r1.1).2 yn.1
    have bb := (yn.2.2.2 _ yn.2.2.1.1 yn.2.2.1.2).1
    rw [e]
    refine t28 hS (A := r_A B R v) (P := w_P (r_W R v)) (k := p - w_fi (r_W R v)) (cnt := B 0 v) (ct := w_ct (r_W R v)) (fi := w_fi (r_W R v)) ok.1.1 r1.1 (by omega) ⟨yn.2.2.1.1, yn.2.2.1.2, by omega⟩ ⟨by omega, by omega⟩ ch.1 ch.2.1 ch.2.2.1 bb (fun f l q' hf hl hq => ?_)
    refine y_ms_v hn hr (m_246 hS _ hn hr (fun M1 f1 h1 m1 q1 N fN => ⟨fun _ F u8 u9 u10 hF => ?_, fun z => absurd v3 (by rw [← k105 M1 f1]; exact z)⟩)) Q m (fun _ _ _ => rfl)
    have hxN := c_mdx_fr (c_fr_t f1 fN) hx
    have ynN := y_N hB hxN r1.1 r1.2
    have cdN := (y_cd hxN r1.1).2 yn.1
    have bkN := (c_rl_fr fN h1).2.1.2.1
    have n10 := ((y_b hr).1 v r1.1.1 r1.1.2)
    rw [k105 N (c_fr_t f1 fN)]
    refine t246_39 hS (A := r_A B R v) (cnt := B 0 v) (a := g_bf (w_P (r_W R v)) 0 (p - w_fi (r_W R v))) (b := w_P (r_W R v) 0 (p - w_fi (r_W R v))) ok.1.1 r1.1 (by omega) cdN.1 (fun i i0 i1 => ?_) bb ynN.2.1.1 ynN.2.1.2.1 (fun x l' q2 hx' hl' hq' => ?_)
    · rw [(bkN.2.1 (10 * v + i) (by omega) (by omega)).1]
      exact (c_A_v (B := B) (L := r_L R) (E := r_E R) (c := v) (i := i) (w := 0) ⟨i0, by omega⟩).1.symm
    · rw [h_fp_u hx' hf, h_lp_u hl' hl, h_lp_u hq' hq]; exact hF
  · exact y_ms_v hn hr (m_246 hS (-1) hn hr (fun M1 f1 h1 m1 q1 N fN => ⟨fun z => absurd (by rw [← k105 M1 f1]; exact z) v3, fun _ => rfl⟩)) Q m (fun _ _ _ => rfl)
def y_what (M : qM) (p z : Int) : Int := if M 105 0 p < 3 then (if z = 0 then M 107 0 p else if z = 1 then M 109 0 p else if z = 2 then M 111 0 p else if z = 3 then M 112 0 p else M 113 0 p) else 0
theorem t240_t {M N : qM} {p z k : Int} {F : Int → qM → Prop} (hN : N = qU M 11 0 0 k) (hk : 0 ≤ k) (h4 : k = 0 → 0 ≤ p ∧ p < 400) (H0 : k = 0 → F (y_what M p z) N) (H1 : k ≠ 0 → ∀ b, F b N) : (((N 11 0 0) ≤ 0 →
 ((0 ≤ p ∧ p < 400) ∧ (((N 105 0 p) < 3 →
 (((z = 0 → (0 ≤ p ∧ p < 400)) ∧ (¬ (z = 0) → ((z = 1 → (0 ≤ p ∧ p < 400)) ∧ (¬ (z = 1) → ((z = 2 → (0 ≤ p ∧ p < 400)) ∧ (¬ (z = 2) → ((z = 3 → (0 ≤ p ∧ p < 400)) ∧ (¬ (z = 3) → (0 ≤ p ∧ p < 400))))))))) ∧
 (∀ x113 : Int, x113 = (if z = 0 then (N 107 0 p) else (if z = 1 then (N 109 0 p) else (if z = 2 then (N 111 0 p) else (if z = 3 then (N 112 0 p) else (N 113 0 p))))) → F x113 N))) ∧
 (¬ ((N 105 0 p) < 3) →
 F 0 N)))) ∧
 (¬ ((N 11 0 0) ≤ 0) →
 F 0 N)) := by
  have e : N 11 0 0 = k := by rw [hN, qU_s]
  have o : ∀ (k : Nat), k ≠ 11 → N k 0 p = M k 0 p := fun k q => by rw [hN, qU_k q]
  rw [e, o 105 (by decide), o 107 (by decide), o 109 (by decide), o 111 (by decide), o 112 (by decide), o 113 (by decide)]
  refine ⟨fun q => ?_, fun q => H1 (by omega) 0⟩
  have k0 : k = 0 := by omega
  have b := h4 k0
  have w := H0 k0
  unfold y_what at w
  refine ⟨b, fun q3 => ⟨⟨fun _ => b, fun _ => ⟨fun _ => b, fun _ => ⟨fun _ => b, fun _ => ⟨fun _ => b, fun _ => b⟩⟩⟩⟩, fun x hx => ?_⟩, fun q3 => ?_⟩
  · rw [if_pos q3] at w
    rw [hx]; exact w
  · rw [if_neg q3] at w; exact w
theorem t240 {d : Nat} {h : qH} (hS : qSe h) {p z : Int} {M : qM} {F : Int → qM → Prop} (h4 : c_pgq M p → M 11 0 22 ≠ 0 → 0 ≤ p ∧ p < 400) (H0 : c_pgq M p → (0 ≤ z ∧ z ≤ 4) → M 11 0 22 ≠ 0 → ∀ N, N = qU M 11 0 0 0 → F (y_what M p z) N) (H1 : ¬ c_pgq M p → ∀ b N, N = qU M 11 0 0 1 → F b N) (H2 : c_pgq M p → ¬ (0 ≤ z ∧ z ≤ 4) → ∀ b N, N = qU M 11 0 0 2 → F b N) (H3 : c_pgq M p → (0 ≤ z ∧ z ≤ 4) → M 11 0 22 = 0 → ∀ b N, N = qU M 11 0 0 3 → F b N) : e240 (d + 2) h p z M F := by
  have one : ¬ c_pgq M p → ∀ N, N = qU M 11 0 0 1 → _ := fun q N hN => t240_t (p := p) (z := z) (F := F) hN (by decide) (fun k => absurd k (by decide)) (fun k => absurd k (by decide)) (fun _ b => H1 q b N hN)
  refine w240 hS ⟨fun p1 N hN => one (fun q => by have := q.1; omega) N hN, fun p1 => ⟨fun m => ?_, fun m => ⟨fun p2 => ?_, fun p2 N hN => one (fun q => p2 (q.2 m)) N hN⟩⟩⟩
  · have q : c_pgq M p := ⟨by omega, fun z => absurd m z⟩
    refine t152 hS (fun z4 x hx N hN => ?_) (fun z4 x hx N hN => ?_)
    · rw [if_neg (by decide), if_pos m] at hx
      exact t240_t hN (by omega) (fun k => by omega) (fun k => by omega) (fun _ b => H3 q z4 m b N (by rw [hN, hx]))
    · rw [if_pos rfl] at hx
      exact t240_t hN (by omega) (fun k => by omega) (fun k => by omega) (fun _ b => H2 q z4 b N (by rw [hN, hx]))
  · have q : c_pgq M p := ⟨by omega, fun _ => p2⟩
    refine t152 hS (fun z4 x hx N hN => ?_) (fun z4 x hx N hN => ?_)
    · rw [if_neg (by decide), if_neg m] at hx
      exact t240_t hN (by omega) (fun _ => h4 q m) (fun _ => H0 q z4 m N (by rw [hN, hx])) (fun k => by omega)
    · rw [if_pos rfl] at hx
      exact t240_t hN (by omega) (fun k => by omega) (fun k => by omega) (fun _ b => H2 q z4 b N (by rw [hN, hx]))
theorem y119 {d d' : Nat} {h : qH} (hS : qSe h) {n p z : Int} {B : pT} {M : qM} (hn : n < 512) (hr : c_rl n B M) : e119 (d + 3) h p z M (p_ok (n + 1) (e240 (d' + 2) h p z)) (p_ex (n + 1) (e240 (d' + 2) h p z) 2 3 1) := by
  have y := (y_b hr).2.2.1
  have hB := hr.1.2.1
  obtain ⟨e0, h8, he⟩ := hr.2.2.1.2.2.2
  have arg : c_pgq M p → ¬ (0 ≤ z ∧ z ≤ 4) → p_ex (n + 1) (e240 (d' + 2) h p z) 2 3 1 0 M := fun q q4 => Or.inl ⟨rfl, by decide, p_exc hn hr (fun F H => t240 hS (fun a b => c_pgq_400 hr a b) (fun _ a => absurd a q4) (fun a => absurd q a) (fun _ _ => H) (fun _ a => absurd a q4))⟩
  refine w119 hS (t137 hS h8 (by omega) (fun q => ⟨fun z0 => w119_14 hS (arg ((y_pq hr h8).mp q) (by omega)), fun z0 => ⟨fun z1 => t138 hS (fun m => ?_) (fun m => Or.inr (Or.inl ⟨rfl, by decide, p_exc hn hr (fun F H => t240 hS (fun a b => c_pgq_400 hr a b) (fun _ _ a => absurd (y.mp m) a) (fun a => absurd ((y_pq hr h8).mp q) a) (fun _ a => absurd ⟨by omega, z1⟩ a) (fun _ _ _ => H))⟩)), fun z1 => w119_14 hS (arg ((y_pq hr h8).mp q) (by omega))⟩⟩) (fun q => Or.inr (Or.inr ⟨rfl, by decide, p_exc hn hr (fun F H => t240 hS (fun a b => c_pgq_400 hr a b) (fun a => absurd ((y_pq hr h8).mpr a) q) (fun _ => H) (fun a => absurd ((y_pq hr h8).mpr a) q) (fun a => absurd ((y_pq hr h8).mpr a) q))⟩)))
  have Q := (y_pq hr h8).mp q
  obtain ⟨en, W, R, L, hx⟩ := y_mdx hr m
  have e : M 10 0 8 - 1 = en := by have := hx.1; omega
  refine ⟨fun z => by omega, fun _ => ?_, fun z => by omega⟩
  rw [e]
  refine t27 hS (fi := fun c => w_fi (r_W R c)) (ct := fun c => w_ct (r_W R c)) (y_8 hB hx) (fun v hv => ?_)
  have t := y_tot hB hx
  have Q2 := Q.2 (fun z => m (y.mpr z))
  have k105 : ∀ M1, c_fr M M1 → M1 105 0 p = v := fun M1 f1 => by
    obtain ⟨ob, B1, R1, out⟩ := hx.2.2.1
    exact u_kind hB out hx.2.1 hx.2.2.2.1 (c_mdx_fr f1 hx).2.2.2.2.2.1 ⟨Q.1, by omega⟩ hv
  have mdl : ∀ v', (∀ M1, c_fr M M1 → y_what M1 p z = v') → p_ok (n + 1) (e240 (d' + 2) h p z) v' M := fun v' hv' => by
    refine p_ans0 hn hr (fun M1 f1 h1 F H => ?_)
    have Q1 := (c_pgq_fr f1).mpr Q
    have m1 : M1 11 0 22 ≠ 0 := by rw [f1 11 0 22 (by unfold c_scr; omega)]; exact fun z => m (y.mpr z)
    refine t240 hS (fun a b => c_pgq_400 h1 a b) (fun _ _ _ N hN => ?_) (fun a => absurd Q1 a) (fun _ a => absurd ⟨by omega, z1⟩ a) (fun _ _ a => absurd a m1)
    rw [hv' M1 f1]; exact H N hN
  refine ⟨fun v3 => ?_, fun v3 => mdl 0 (fun M1 f1 => by unfold y_what; rw [if_neg (by rw [k105 M1 f1]; exact v3)])⟩
  have r1 : (0 ≤ v ∧ v < 3) ∧ (w_fi (r_W R v) ≤ p ∧ p < w_fi (r_W R v) + w_ct (r_W R v)) := by
    rcases hv with z | z | z
    · omega
    · exact z.2
    · have := z.2.2; split at this <;> omega
  have yn := y_N hB hx r1.1 r1.2
  have ch := y_ch hx r1.1
  have mk := (y_mk hB hx r1.1).2 yn.1
  have f8 : M 8 (0 + 3 * en + v) 0 = w_fi (r_W R v) := ch.2.2.1
  refine ⟨fun z => by omega, fun _ => ⟨r1.1, fun z => by omega, fun _ => ⟨r1.1, ?_⟩, fun z => by omega⟩, fun z => by omega⟩
  rw [e, f8]
  refine ⟨⟨by omega, by omega⟩, t86 hS (P := w_P (r_W R v)) ch.2.1 ⟨yn.2.2.1.1, yn.2.2.1.2, by omega⟩ (fun j j0 j1 => (yn.2.2.2 j j0 j1).2) ⟨by omega, z1⟩ (mdl _ (fun M1 f1 => ?_))⟩
  have yn1 := y_N hB (c_mdx_fr f1 hx) r1.1 r1.2
  unfold y_what y_tell
  rw [if_pos (by rw [k105 M1 f1]; exact v3), yn1.2.1.2.1, yn1.2.1.2.2.1, yn1.2.1.2.2.2.1, yn1.2.1.2.2.2.2.1, yn1.2.1.2.2.2.2.2]
