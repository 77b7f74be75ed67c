/-! ===== pairs of answers on pages ===== -/
theorem t86_0 {d : Nat} {h : qH} (hS : qSe h) {n k : Int} {M : qM} {F : Int → qM → Prop} (hk : 0 ≤ k ∧ k < 86) (hb : (0 ≤ M 43 n k ∧ M 43 n k ≤ 70) ∧ (0 < k → 0 ≤ M 43 n (k - 1) ∧ M 43 n (k - 1) ≤ 70)) (H : F (M 43 n k - (if k ≤ 0 then 0 else M 43 n (k - 1))) M) : e86 (d + 2) h n k 0 M F := by
  refine qJ.body (Nat.le_of_ble_eq_true rfl) (qWq (fun _ => false) 60 ?_)
  refine And.intro (fun q => absurd q (by decide)) (fun _ => ?_)
  refine And.intro (hS.1 _ _ _ rfl) (And.intro hk ?_)
  have hq : qIn (M 43 n k - (if k ≤ 0 then 0 else M 43 n (k - 1))) := by
    split
    · exact ⟨by omega, by omega⟩
    · have := hb.2 (by omega); exact ⟨by omega, by omega⟩
  exact And.intro rfl (qEi.go (t82 (d := d) (F := fun v M' => qIn (M 43 n k - v) ∧ F (M 43 n k - v) M') hS ⟨by omega, by omega⟩ ⟨hq, H⟩) (Nat.le_refl _) (fun v M' hv => And.intro hv.1 ⟨_, _, rfl, rfl, hv.2⟩))
theorem t86_2 {d : Nat} {h : qH} (hS : qSe h) {n k : Int} {M : qM} {F : Int → qM → Prop} (hk : 0 ≤ k ∧ k < 86) (hb : (0 ≤ M 45 n k ∧ M 45 n k ≤ 12) ∧ (0 < k → 0 ≤ M 45 n (k - 1) ∧ M 45 n (k - 1) ≤ 12)) (H : F (M 45 n k - (if k ≤ 0 then 0 else M 45 n (k - 1))) M) : e86 (d + 2) h n k 2 M F := by
  refine qJ.body (Nat.le_of_ble_eq_true rfl) (qWq (fun _ => false) 60 ?_)
  refine And.intro (fun q => absurd q (by decide)) (fun _ => ?_)
  refine And.intro (hS.1 _ _ _ rfl) (And.intro hk ?_)
  have hq : qIn (M 45 n k - (if k ≤ 0 then 0 else M 45 n (k - 1))) := by
    split
    · exact ⟨by omega, by omega⟩
    · have := hb.2 (by omega); exact ⟨by omega, by omega⟩
  exact And.intro rfl (qEi.go (t84 (d := d) (F := fun v M' => qIn (M 45 n k - v) ∧ F (M 45 n k - v) M') hS ⟨by omega, by omega⟩ ⟨hq, H⟩) (Nat.le_refl _) (fun v M' hv => And.intro hv.1 ⟨_, _, rfl, rfl, hv.2⟩))
theorem t86_3 {d : Nat} {h : qH} (hS : qSe h) {n k : Int} {M : qM} {F : Int → qM → Prop} (hk : 0 ≤ k ∧ k < 86) (H : F (M 46 n k) M) : e86 (d + 2) h n k 3 M F := by
  refine qJ.body (Nat.le_of_ble_eq_true rfl) (qWq (fun _ => false) 60 ?_)
  refine And.intro (fun q => absurd q (by decide)) (fun _ => ?_)
  exact And.intro (hS.1 _ _ _ rfl) (And.intro hk ⟨_, _, rfl, rfl, H⟩)
theorem t86_4 {d : Nat} {h : qH} (hS : qSe h) {n k : Int} {M : qM} {F : Int → qM → Prop} (hk : 0 ≤ k ∧ k < 86) (H : F (M 47 n k) M) : e86 (d + 2) h n k 4 M F := by
  refine qJ.body (Nat.le_of_ble_eq_true rfl) (qWq (fun _ => false) 60 ?_)
  refine And.intro (fun _ => ?_) (fun q => absurd (Or.inr (by decide)) q)
  exact And.intro (hS.1 _ _ _ rfl) (And.intro hk ⟨_, _, rfl, rfl, H⟩)
/-- page k of a chapter: what = 0 .. 4 -/
def y_tell (P : pT) (k z : Int) : Int := if z = 0 then P 0 k - g_bf P 0 k else if z = 1 then P 1 k - g_bf P 1 k else if z = 2 then P 2 k - g_bf P 2 k else if z = 3 then P 3 k else P 4 k
theorem t86 {d : Nat} {h : qH} (hS : qSe h) {P : pT} {ct n k z : Int} {M : qM} {F : Int → qM → Prop} (hP : g_cP P ct n M) (hk : 0 ≤ k ∧ k < ct ∧ ct ≤ 86) (hb : ∀ j, 0 ≤ j → j < ct → (0 ≤ P 0 j ∧ P 0 j ≤ 70) ∧ (0 ≤ P 1 j ∧ P 1 j ≤ 4) ∧ 0 ≤ P 2 j ∧ P 2 j ≤ 12) (hz : 0 ≤ z ∧ z ≤ 4) (H : F (y_tell P k z) M) : e86 (d + 2) h n k z M F := by
  have pk := hP.2 k hk.1 hk.2.1
  have bk := hb k hk.1 hk.2.1
  have pj : 0 < k → M 43 n (k - 1) = P 0 (k - 1) ∧ M 44 n (k - 1) = P 1 (k - 1) ∧ M 45 n (k - 1) = P 2 (k - 1) := fun q => by have := hP.2 (k - 1) (by omega) (by omega); exact ⟨this.1, this.2.1, this.2.2.1⟩
  have bj : 0 < k → (0 ≤ P 0 (k - 1) ∧ P 0 (k - 1) ≤ 70) ∧ (0 ≤ P 1 (k - 1) ∧ P 1 (k - 1) ≤ 4) ∧ 0 ≤ P 2 (k - 1) ∧ P 2 (k - 1) ≤ 12 := fun q => hb (k - 1) (by omega) (by omega)
  have gb0 : g_bf P 0 k = if k ≤ 0 then 0 else P 0 (k - 1) := rfl
  have gb1 : g_bf P 1 k = if k ≤ 0 then 0 else P 1 (k - 1) := rfl
  have gb2 : g_bf P 2 k = if k ≤ 0 then 0 else P 2 (k - 1) := rfl
  have z5 : z = 0 ∨ z = 1 ∨ z = 2 ∨ z = 3 ∨ z = 4 := by omega
  rcases z5 with rfl | rfl | rfl | rfl | rfl
  · refine t86_0 hS ⟨hk.1, by omega⟩ ⟨by rw [pk.1]; exact bk.1, fun q => by rw [(pj q).1]; exact (bj q).1⟩ ?_
    have e : M 43 n k - (if k ≤ 0 then 0 else M 43 n (k - 1)) = y_tell P k 0 := by
      show _ = P 0 k - g_bf P 0 k
      rw [gb0, pk.1]
      split
      · rfl
      · rw [(pj (by omega)).1]
    rw [e]; exact H
  · refine t86_1 hS ⟨hk.1, by omega⟩ ⟨by rw [pk.2.1]; exact bk.2.1, fun q => by rw [(pj q).2.1]; exact (bj q).2.1⟩ ?_
    have e : M 44 n k - (if k ≤ 0 then 0 else M 44 n (k - 1)) = y_tell P k 1 := by
      show _ = P 1 k - g_bf P 1 k
      rw [gb1, pk.2.1]
      split
      · rfl
      · rw [(pj (by omega)).2.1]
    rw [e]; exact H
  · refine t86_2 hS ⟨hk.1, by omega⟩ ⟨by rw [pk.2.2.1]; exact bk.2.2, fun q => by rw [(pj q).2.2]; exact (bj q).2.2⟩ ?_
    have e : M 45 n k - (if k ≤ 0 then 0 else M 45 n (k - 1)) = y_tell P k 2 := by
      show _ = P 2 k - g_bf P 2 k
      rw [gb2, pk.2.2.1]
      split
      · rfl
      · rw [(pj (by omega)).2.2]
    rw [e]; exact H
  · refine t86_3 hS ⟨hk.1, by omega⟩ ?_
    rw [pk.2.2.2.1]; exact H
  · refine t86_4 hS ⟨hk.1, by omega⟩ ?_
    rw [pk.2.2.2.2]; exact H
def c_pgq (M : qM) (p : Int) : Prop := 1 ≤ p ∧ (M 11 0 22 ≠ 0 → p ≤ M 11 0 58)
theorem c_pgq_fr {M M1 : qM} {p : Int} (f : c_fr M M1) : c_pgq M1 p ↔ c_pgq M p := by
  unfold c_pgq
  rw [f 11 0 22 (by unfold c_scr; omega), f 11 0 58 (by unfold c_scr; omega)]
theorem y_tot {B : pT} {en L : Int} {W : Int → Int} {R : c_R} {M : qM} (hB : c_ok B) (h : c_mdx B en W R L M) : M 11 0 58 = c_tot B R L ∧ M 3 en 5 = c_tot B R L ∧ M 3 en 4 = c_lal B R ∧ M 3 en 3 = c_p0 B ∧ (c_p0 B ≤ c_lal B R ∧ c_lal B R ≤ 299) ∧ c_lal B R ≤ c_tot B R L ∧ c_tot B R L < 400 := by
  obtain ⟨ob, B1, R1, out⟩ := h.2.2.1
  have tb := c_tot_b hB out h.2.1
  exact ⟨h.2.2.2.2.2.1.2.1, h.2.2.2.1.2.2.2.2.2, h.2.2.2.1.2.1, h.2.2.2.1.2.2.2.1.2.2.2, tb.1, tb.2⟩
/-- the class' asking of a page -/
theorem y_pq {n p : Int} {B : pT} {M : qM} (hr : c_rl n B M) {en : Int} (h8 : M 10 0 8 = en + 1) : 1 ≤ p ∧ (M 10 0 13 ≠ 0 → p ≤ M 3 en 5) ↔ c_pgq M p := by
  have y := (y_b hr).2.2.1
  unfold c_pgq
  by_cases m : M 10 0 13 = 0
  · exact ⟨fun z => ⟨z.1, fun q => absurd (y.mp m) q⟩, fun z => ⟨z.1, fun q => absurd m q⟩⟩
  · obtain ⟨en', W, R, L, hx⟩ := y_mdx hr m
    have e : en' = en := by have := hx.1; omega
    subst e
    have t := y_tot hr.1.2.1 hx
    rw [t.1, t.2.1]
    exact ⟨fun z => ⟨z.1, fun _ => z.2 m⟩, fun z => ⟨z.1, fun _ => z.2 (fun q => m (y.mpr q))⟩⟩
theorem y_ap {d : Nat} {h : qH} (hS : qSe h) {n p : Int} {B : pT} {M : qM} {val : qM → Int} {mc : qM → (Int → qM → Prop) → Prop} {f : qM → Prop} (hn : n < 512) (hr : c_rl n B M) (hm : y_ms n B M (c_pgq M p) val mc) (H : c_pgq M p → M 10 0 13 ≠ 0 → f M) : e137 (d + 1) h p M (fun M' => e138 (d + 1) h M' (fun M'' => f M'') (p_ex (n + 1) mc 0 2 1)) (p_ex (n + 1) mc 0 2 1) := by
  obtain ⟨en, h8, he⟩ := hr.2.2.1.2.2.2
  exact t137 hS h8 (by omega) (fun q => t138 hS (fun m => H ((y_pq hr h8).mp q) m) (fun m => Or.inr (Or.inl ⟨rfl, by decide, y_ms_un hn hr hm ((y_pq hr h8).mp q) m⟩))) (fun q => Or.inr (Or.inr ⟨rfl, by decide, y_ms_no hn hr hm (fun z => q ((y_pq hr h8).mpr z))⟩))
theorem c_pgq_400 {n p : Int} {B : pT} {M : qM} (hr : c_rl n B M) (q : c_pgq M p) (m : M 11 0 22 ≠ 0) : 0 ≤ p ∧ p < 400 := by
  obtain ⟨en', W, R, L, hx⟩ := y_mdx hr (fun z => m ((y_b hr).2.2.1.mp z))
  have t := y_tot hr.1.2.1 hx
  have := q.1
  have := q.2 m
  omega
/-- what kindAt asks -/
theorem y_8 {B : pT} {en L : Int} {W : Int → Int} {R : c_R} {M : qM} (hB : c_ok B) (h : c_mdx B en W R L M) : ∀ c, 0 ≤ c → c < 3 → M 8 (0 + 3 * en + c) 0 = w_fi (r_W R c) ∧ M 8 (0 + 3 * en + c) 1 = w_ct (r_W R c) ∧ (0 ≤ w_fi (r_W R c) ∧ w_fi (r_W R c) ≤ 1000) ∧ 0 ≤ w_ct (r_W R c) ∧ w_ct (r_W R c) ≤ 1000 := fun c c0 c3 => by
  have ch := y_ch h ⟨c0, c3⟩
  have mk := y_mk hB h ⟨c0, c3⟩
  refine ⟨ch.2.2.1, ch.2.1.1, ?_⟩
  by_cases q : 0 < B 0 c
  · have := mk.2 q; omega
  · have := mk.1 (by omega); omega
