/-! ===== Pages.addPage, PageMaker.hasAdded ===== -/
/-- one page more -/
def g_ap (P : pT) (c a0 a1 a2 a3 a4 : Int) : pT := fun j k => if k = c then (if j = 0 then a0 else if j = 1 then a1 else if j = 2 then a2 else if j = 3 then a3 else a4) else P j k
theorem g_ap_o {P : pT} {c a0 a1 a2 a3 a4 k : Int} {j : Nat} (h : k ≠ c) : g_ap P c a0 a1 a2 a3 a4 j k = P j k := if_neg h
theorem g_ap_c {P : pT} {c a0 a1 a2 a3 a4 : Int} : g_ap P c a0 a1 a2 a3 a4 0 c = a0 ∧ g_ap P c a0 a1 a2 a3 a4 1 c = a1 ∧ g_ap P c a0 a1 a2 a3 a4 2 c = a2 ∧ g_ap P c a0 a1 a2 a3 a4 3 c = a3 ∧ g_ap P c a0 a1 a2 a3 a4 4 c = a4 := by
  unfold g_ap
  simp
def fr81 (n : Int) (M M' : qM) : Prop := ∀ (k : Nat) (m s : Int), ¬ (m = n ∧ ((k = 8 ∧ (s = 1 ∨ s = 2)) ∨ (43 ≤ k ∧ k ≤ 47))) → M' k m s = M k m s
theorem t81 {d : Nat} {h : qH} (hS : qSe h) {P : pT} {c n a0 a1 a2 a3 a4 : Int} {M : qM} {F : qM → Prop} (hP : g_cP P c n M) (hc : 0 ≤ c ∧ c < 86) (hw : 0 ≤ M 8 n 2 ∧ M 8 n 2 ≤ 1000)
    (H : ∀ M', fr81 n M M' → g_cP (g_ap P c a0 a1 a2 a3 a4) (c + 1) n M' → M' 8 n 2 = M 8 n 2 + (if a0 ≤ g_bf P 0 c then 0 else 1) → F M') : e81 (d + 2) h n a0 a1 a2 a3 a4 M F := by
  obtain ⟨p1, p2⟩ := hP
  have hbf : (if M 8 n 1 ≤ 0 then 0 else M 43 n (M 8 n 1 - 1)) = g_bf P 0 c := by
    rw [p1]
    unfold g_bf
    by_cases k : c ≤ 0
    · rw [if_pos k, if_pos k]
    · rw [if_neg k, if_neg k]; exact (p2 (c - 1) (by omega) (by omega)).1
  refine w81 hS ⟨fun _ => t82 hS (by rw [p1]; exact ⟨by omega, by omega⟩) ?_, fun q => by rw [p1] at q; omega⟩
  rw [hbf]
  intro x hx
  have hx2 : 0 ≤ x ∧ x ≤ 1 := by rw [hx]; split <;> omega
  refine ⟨⟨by omega, by omega⟩, fun M1 f1 => ?_⟩
  have c1 : M1 8 n 1 = c := by rw [f1, qU_l (by decide), p1]
  rw [c1]
  refine ⟨⟨by omega, by omega⟩, fun M2 f2 => ?_⟩
  have c2 : M2 8 n 1 = c := by rw [f2, qU_k (by decide), c1]
  rw [c2]
  refine ⟨⟨by omega, by omega⟩, fun M3 f3 => ?_⟩
  have c3 : M3 8 n 1 = c := by rw [f3, qU_k (by decide), c2]
  rw [c3]
  refine ⟨⟨by omega, by omega⟩, fun M4 f4 => ?_⟩
  have c4 : M4 8 n 1 = c := by rw [f4, qU_k (by decide), c3]
  rw [c4]
  refine ⟨⟨by omega, by omega⟩, fun M5 f5 => ?_⟩
  have c5 : M5 8 n 1 = c := by rw [f5, qU_k (by decide), c4]
  rw [c5]
  refine ⟨⟨by omega, by omega⟩, fun M6 f6 => ?_⟩
  have c6 : M6 8 n 1 = c := by rw [f6, qU_k (by decide), c5]
  rw [c6]
  refine ⟨⟨by omega, by omega⟩, fun M7 f7 => H M7 (fun k m s q => ?_) ⟨by rw [f7, qU_s], fun k k0 k1 => ?_⟩ ?_⟩
  · rw [f7, f6, f5, f4, f3, f2, f1]
    unfold qU
    rw [if_neg (by omega), if_neg (by omega), if_neg (by omega), if_neg (by omega), if_neg (by omega), if_neg (by omega), if_neg (by omega)]
  · have x43 : M7 43 n k = if k = c then a0 else M 43 n k := by rw [f7, qU_k (by decide), f6, qU_k (by decide), f5, qU_k (by decide), f4, qU_k (by decide), f3, qU_k (by decide), f2]; split; (rename_i e; rw [e, qU_s]); (rename_i e; rw [qU_l e, f1, qU_k (by decide)])
    have x44 : M7 44 n k = if k = c then a1 else M 44 n k := by rw [f7, qU_k (by decide), f6, qU_k (by decide), f5, qU_k (by decide), f4, qU_k (by decide), f3]; split; (rename_i e; rw [e, qU_s]); (rename_i e; rw [qU_l e, f2, qU_k (by decide), f1, qU_k (by decide)])
    have x45 : M7 45 n k = if k = c then a2 else M 45 n k := by rw [f7, qU_k (by decide), f6, qU_k (by decide), f5, qU_k (by decide), f4]; split; (rename_i e; rw [e, qU_s]); (rename_i e; rw [qU_l e, f3, qU_k (by decide), f2, qU_k (by decide), f1, qU_k (by decide)])
    have x46 : M7 46 n k = if k = c then a3 else M 46 n k := by rw [f7, qU_k (by decide), f6, qU_k (by decide), f5]; split; (rename_i e; rw [e, qU_s]); (rename_i e; rw [qU_l e, f4, qU_k (by decide), f3, qU_k (by decide), f2, qU_k (by decide), f1, qU_k (by decide)])
    have x47 : M7 47 n k = if k = c then a4 else M 47 n k := by rw [f7, qU_k (by decide), f6]; split; (rename_i e; rw [e, qU_s]); (rename_i e; rw [qU_l e, f5, qU_k (by decide), f4, qU_k (by decide), f3, qU_k (by decide), f2, qU_k (by decide), f1, qU_k (by decide)])
    rw [x43, x44, x45, x46, x47]
    by_cases e : k = c
    · have := g_ap_c (P := P) (c := c) (a0 := a0) (a1 := a1) (a2 := a2) (a3 := a3) (a4 := a4)
      rw [if_pos e, if_pos e, if_pos e, if_pos e, if_pos e, e]
      exact ⟨this.1.symm, this.2.1.symm, this.2.2.1.symm, this.2.2.2.1.symm, this.2.2.2.2.symm⟩
    · rw [if_neg e, if_neg e, if_neg e, if_neg e, if_neg e, g_ap_o e, g_ap_o e, g_ap_o e, g_ap_o e, g_ap_o e]
      exact p2 k k0 (by omega)
  · rw [f7, qU_l (by decide), f6, qU_k (by decide), f5, qU_k (by decide), f4, qU_k (by decide), f3, qU_k (by decide), f2, qU_k (by decide), f1, qU_s, hx]
/-- the pages that there are have this behind them -/
def g_st (T : pT) (P : pT) (c : Int) : Prop := g_at T (g_bf P 0 c) (g_bf P 1 c) (g_bf P 2 c)
def fr67 (n : Int) (M M' : qM) : Prop := ∀ (k : Nat) (m s : Int), ¬ (k = 7 ∧ m = 0 ∧ 5 ≤ s ∧ s ≤ 9) → ¬ (m = n ∧ ((k = 8 ∧ (s = 1 ∨ s = 2 ∨ s = 3)) ∨ (43 ≤ k ∧ k ≤ 47))) → M' k m s = M k m s
/-- the pages with one more, by a choice -/
def g_add (T P : pT) (c b m : Int) : pT := g_ap P c b (g_bf P 1 c + m) (g_bf P 2 c + g_lines T (g_bf P 0 c) b (g_bf P 1 c) m (g_bf P 2 c)) (g_grown T (g_bf P 0 c) b (g_bf P 1 c) m (g_bf P 2 c)) (g_fill T (g_bf P 0 c) b (g_bf P 1 c) m (g_bf P 2 c))
theorem g_bf_mem {P : pT} {c n : Int} {M : qM} (hP : g_cP P c n M) (hc : 0 ≤ c) : (if c ≤ 0 then 0 else M 43 n (c - 1)) = g_bf P 0 c ∧ (if c ≤ 0 then 0 else M 44 n (c - 1)) = g_bf P 1 c ∧ (if c ≤ 0 then 0 else M 45 n (c - 1)) = g_bf P 2 c := by
  unfold g_bf
  by_cases k : c ≤ 0
  · rw [if_pos k, if_pos k, if_pos k, if_pos k, if_pos k, if_pos k]; exact ⟨rfl, rfl, rfl⟩
  · have := hP.2 (c - 1) (by omega) (by omega)
    rw [if_neg k, if_neg k, if_neg k, if_neg k, if_neg k, if_neg k]
    exact ⟨this.1, this.2.1, this.2.2.1⟩
theorem t67 {d : Nat} {h : qH} (hS : qSe h) {T P : pT} {r c n b m : Int} {M : qM} {F : Int → qM → Prop} (hT : g_tab T) (hM : g_cM T r M) (hP : g_cP P c n M) (hc : 0 ≤ c ∧ c < 86) (hs : g_st T P c) (hx : 0 ≤ g_x P c ∧ g_x P c ≤ 15) (hw : 0 ≤ M 8 n 2 ∧ M 8 n 2 ≤ 1000) (ht : 0 ≤ M 8 n 3 ∧ M 8 n 3 ≤ 1000000)
    (H1 : g_can T (g_bf P 0 c) (g_bf P 1 c) (g_bf P 2 c) b m → ∀ M', fr67 n M M' → g_cP (g_add T P c b m) (c + 1) n M' → M' 8 n 2 = M 8 n 2 + 1 → M' 8 n 3 = M 8 n 3 + (g_cost T (g_bf P 0 c) b (g_bf P 1 c) m (g_bf P 2 c) + g_far T (g_bf P 0 c) b (g_bf P 1 c) m (g_bf P 2 c) (g_x P c)) → F 1 M')
    (H0 : ¬ g_can T (g_bf P 0 c) (g_bf P 1 c) (g_bf P 2 c) b m → ∀ M', fr67 n M M' → g_cP P c n M' → M' 8 n 2 = M 8 n 2 → M' 8 n 3 = M 8 n 3 → F 0 M') : e67 (d + 3) h n b m M F := by
  have e := g_bf_mem hP hc.1
  have h70 := hT.1
  have hF := hT.2.2.1
  have hN := hT.2.2.2.1
  have hs' : g_at T (g_bf P 0 c) (g_bf P 1 c) (g_bf P 2 c) := hs
  generalize hA : g_bf P 0 c = a at *
  generalize hFf : g_bf P 1 c = f at *
  generalize hNn : g_bf P 2 c = nn at *
  have ta := g_tab_at hT hs'.1
  have s2 := hs'.2.1
  have same : fr67 n M M := fun _ _ _ _ _ => rfl
  obtain ⟨m3, m4, r0, c1, -⟩ := id hM
  have q1 : M 7 0 3 - 1 = r := by omega
  refine w67 hS (t82 hS (by rw [hP.1]; exact ⟨by omega, by omega⟩) ?_)
  rw [hP.1, e.1]
  refine t83 hS ⟨by omega, by omega⟩ ?_
  rw [hP.1, e.2.1]
  refine t84 hS ⟨by omega, by omega⟩ ?_
  rw [e.2.2]
  refine ⟨fun k => H0 (fun hc' => by have := hc'.1; omega) M same hP rfl rfl, fun k => ⟨fun q => by omega, fun _ => ⟨fun k2 => ⟨fun k3 => H0 (fun hc' => by have := hc'.2.1; omega) M same hP rfl rfl, fun k3 => ?_⟩, fun k2 => H0 (fun hc' => by rw [q1, c1] at k2; have := hc'.1; omega) M same hP rfl rfl⟩, fun q => by omega⟩⟩
  rw [q1, c1] at k2
  have tb := g_tab_at hT (a := b) ⟨by have := hs'.1; omega, k2⟩
  have dm := hT.2.2.2.2.2.2.1 a b hs'.1.1 (by omega) k2
  refine t59 hS hT hM ⟨by have := hs'.1; omega, k2⟩ ⟨s2.1, by omega⟩ ⟨fun k4 => ?_, fun k4 => H0 (fun hc' => k4 (by have := hc'.2.1; split <;> omega)) M same hP rfl rfl⟩
  have hm2 : m ≤ 2 ∧ f + m ≤ T 1 b := by
    constructor
    · split at k4 <;> omega
    · split at k4 <;> omega
  refine t58 hS hT hM hs' ⟨by omega, k2⟩ ⟨by omega, hm2.2⟩ (fun ok M1 O1 x5 x6 x7 x8 x9 => ⟨fun q => absurd q (by decide), fun _ => ?_⟩) (fun nok M1 O1 => ⟨fun _ => H0 (fun hc' => nok hc'.2.2) M1 (fun k m s q1 q2 => O1 k m s q1) ?_ (O1 _ _ _ (by omega)) (O1 _ _ _ (by omega)), fun q => absurd rfl q⟩)
  · have hcan : g_can T a f nn b m := ⟨⟨by omega, k2⟩, ⟨by omega, hm2.1, hm2.2⟩, ok⟩
    have nums := g_nums hT hs' ⟨by omega, k2⟩ ⟨by omega, hm2.2⟩
    have ng := nums.2.2.2.2.2 ok
    have hP1 : g_cP P c n M1 := ⟨by rw [O1 _ _ _ (by omega)]; exact hP.1, fun k a b => by rw [O1 _ _ _ (by omega), O1 _ _ _ (by omega), O1 _ _ _ (by omega), O1 _ _ _ (by omega), O1 _ _ _ (by omega)]; exact hP.2 k a b⟩
    have farb : 0 ≤ g_far T a b f m nn (g_x P c) ∧ g_far T a b f m nn (g_x P c) ≤ 15 := by
      unfold g_far
      split
      · omega
      · split
        · omega
        · split
          · split <;> omega
          · omega
    have qq := g_can_q hT hs' hcan
    have t1 : M1 8 n 3 = M 8 n 3 := O1 _ _ _ (by omega)
    have w1 : M1 8 n 2 = M 8 n 2 := O1 _ _ _ (by omega)
    refine t68 hS hP1 ⟨by omega, by omega⟩ (t60 hS (T := T) (a := a) (b := b) (f := f) (m := m) (n := nn) x7 x9 ng.2.2.2.1 hx ?_)
    rw [x8, t1]
    refine ⟨⟨by omega, by omega⟩, ⟨by omega, by omega⟩, fun M2 f2 => ?_⟩
    have O2 : ∀ (k : Nat) (m' s : Int), ¬ (k = 8 ∧ m' = n ∧ s = 3) → M2 k m' s = M1 k m' s := fun k m' s q => by rw [f2]; unfold qU; rw [if_neg q]
    have y5 : M2 7 0 5 = g_lines T a b f m nn ∧ M2 7 0 6 = g_grown T a b f m nn ∧ M2 7 0 7 = g_fill T a b f m nn := ⟨by rw [O2 _ _ _ (by omega)]; exact x5, by rw [O2 _ _ _ (by omega)]; exact x6, by rw [O2 _ _ _ (by omega)]; exact x7⟩
    rw [y5.1, y5.2.1, y5.2.2]
    have hP2 : g_cP P c n M2 := ⟨by rw [O2 _ _ _ (by omega)]; exact hP1.1, fun k a b => by rw [O2 _ _ _ (by omega), O2 _ _ _ (by omega), O2 _ _ _ (by omega), O2 _ _ _ (by omega), O2 _ _ _ (by omega)]; exact hP1.2 k a b⟩
    refine ⟨qq.1, qq.2, t81 hS hP2 hc (by rw [O2 _ _ _ (by omega), w1]; exact hw) (fun M3 O3 hP3 w3 => H1 hcan M3 (fun k m' s q1 q2 => ?_) ?_ ?_ ?_)⟩
    · rw [O3 k m' s (by omega), O2 k m' s (by omega), O1 k m' s q1]
    · unfold g_add
      rw [hA, hFf, hNn]
      exact hP3
    · rw [w3, O2 _ _ _ (by omega), w1, hA, if_neg (by omega)]
    · rw [O3 _ _ _ (by omega), f2, qU_s]
  · exact ⟨by rw [O1 _ _ _ (by omega)]; exact hP.1, fun k a b => by rw [O1 _ _ _ (by omega), O1 _ _ _ (by omega), O1 _ _ _ (by omega), O1 _ _ _ (by omega), O1 _ _ _ (by omega)]; exact hP.2 k a b⟩
