/-! ===== Margins.putOne, Rows.hasBlankAhead, floatHigh, Pages.pageOfRow ===== -/
/-- where a margin would stand -/
def b_at (wanted e depth high : Int) : Int := if (if wanted < e then e else wanted) ≤ depth - high then (if wanted < e then e else wanted) else depth - high
theorem t55 {d : Nat} {h : qH} (hS : qSe h) {x hi w en dp cn pg : Int} {M : qM} {F : qM → Prop} (hx : 0 ≤ x ∧ x < 600) (hhi : 0 ≤ hi ∧ hi ≤ 100) (hw : 0 ≤ w ∧ w ≤ 1000) (h5 : M 6 0 5 = en) (h4 : M 6 0 4 = dp) (h2 : M 6 0 2 = cn) (h3 : M 6 0 3 = pg) (hen : 0 ≤ en ∧ en ≤ 1000) (hdp : 0 ≤ dp ∧ dp ≤ 100) (hcn : 0 ≤ cn ∧ cn < 60) (hpg : 0 ≤ pg ∧ pg ≤ 1000)
    (H1 : en ≤ b_at w en dp hi → ∀ M', (∀ (k : Nat) (m s : Int), ¬ (m = 0 ∧ ((k = 38 ∧ s = x) ∨ (k = 6 ∧ s = 5))) → M' k m s = M k m s) → M' 38 0 x = 100 * pg + b_at w en dp hi → M' 6 0 5 = b_at w en dp hi + hi → F M')
    (H0 : b_at w en dp hi < en → ∀ M', (∀ (k : Nat) (m s : Int), ¬ (m = 0 ∧ ((k = 39 ∧ s = cn) ∨ (k = 6 ∧ s = 2))) → M' k m s = M k m s) → M' 39 0 cn = x → M' 6 0 2 = cn + 1 → F M') : e55 (d + 2) h x hi w M F := by
  refine w55 hS (w264 hS (fun a ha => ⟨⟨by omega, by omega⟩, w265 hS (fun b hb => ?_)⟩))
  rw [h5] at ha
  rw [h4] at hb
  have eb : b = b_at w en dp hi := by
    unfold b_at
    rw [← ha, hb]
  have bb : -100 ≤ b ∧ b ≤ 1000 := by
    rw [eb]; unfold b_at
    split <;> split <;> omega
  rw [h5, h2, h3]
  refine ⟨fun q => ⟨fun _ => ⟨hcn, fun M1 f1 => ?_⟩, fun z => by omega⟩, fun q => ⟨⟨by omega, by omega⟩, ⟨by omega, by omega⟩, hx, fun M1 f1 => ⟨⟨by omega, by omega⟩, fun M2 f2 => ?_⟩⟩⟩
  · have e2 : M1 6 0 2 = cn := by rw [f1, qU_k (by decide)]; exact h2
    rw [e2]
    refine ⟨⟨by omega, by omega⟩, fun M2 f2 => H0 (by omega) M2 (fun k m s q => ?_) ?_ ?_⟩
    · rw [f2, f1]; unfold qU; rw [if_neg (by omega), if_neg (by omega)]
    · rw [f2, qU_k (by decide), f1, qU_s]
    · rw [f2, qU_s]
  · rw [eb] at f1 f2
    refine H1 (by omega) M2 (fun k m s q => ?_) ?_ ?_
    · rw [f2, f1]; unfold qU; rw [if_neg (by omega), if_neg (by omega)]
    · rw [f2, qU_k (by decide), f1, qU_s]
    · rw [f2, qU_s]
theorem t92 {d : Nat} {h : qH} (hS : qSe h) {n r : Int} {M : qM} {F : Int → qM → Prop} (hr : 0 ≤ r ∧ r < 70) (H : F (if M 54 n (r + 1) ≤ M 54 n r then 0 else 1) M) : e92 (d + 1) h n r M F :=
  w92 hS ⟨⟨by omega, by omega⟩, ⟨by omega, by omega⟩, ⟨by omega, by omega⟩, fun y hy => ⟨by rw [hy]; split <;> omega, by rw [hy]; exact H⟩⟩
theorem t93 {d : Nat} {h : qH} (hS : qSe h) {n k : Int} {M : qM} {F : Int → qM → Prop} (hk : 0 ≤ k ∧ k < 4) (hb : 0 ≤ M 61 n (k + 1) ∧ M 61 n (k + 1) ≤ 1000 ∧ 0 ≤ M 61 n k ∧ M 61 n k ≤ 1000) (H : F (M 61 n (k + 1) - M 61 n k) M) : e93 (d + 1) h n k M F :=
  w93 hS ⟨⟨by omega, by omega⟩, ⟨by omega, by omega⟩, ⟨by omega, by omega⟩, ⟨by omega, by omega⟩, H⟩
theorem t85 {d : Nat} {h : qH} (hS : qSe h) {P : pT} {n r cnt fi : Int} {M : qM} {F : Int → qM → Prop} (hP : g_cP P cnt n M) (hc : 0 ≤ cnt ∧ cnt ≤ 86) (hfi : M 8 n 0 = fi) (hf : 0 ≤ fi ∧ fi ≤ 1000)
    (H : ∀ k, b_first (fun k => r < P 0 k) cnt k → F (if k = -1 then -1 else fi + k) M) : e85 (d + 1) h n r M F := by
  refine w85 hS ?_
  refine q_upto (P := fun k => 0 ≤ k → (∀ j, 0 ≤ j → j < k → ¬ r < P 0 j) → b85_2 d h F n r k M) (a := 0) (b := cnt) hc.1 (fun _ no => ?_) (fun k k0 k1 ih _ no => ?_) (by omega) (fun j a b => by omega)
  · refine w85_2 hS ⟨fun q => by rw [hP.1] at q; omega, fun _ => ?_⟩
    have := H (-1) (Or.inl ⟨rfl, no⟩)
    rw [if_pos rfl] at this; exact this
  · have e43 : M 43 n k = P 0 k := (hP.2 k k0 k1).1
    have e1 := hP.1
    refine w85_2 hS ⟨fun _ => ⟨⟨by omega, by omega⟩, fun q => ?_, fun q => ⟨⟨by omega, by omega⟩, ih (by omega) (fun j a b => ?_)⟩⟩, fun q => by omega⟩
    · rw [e43] at q
      rw [hfi]
      have := H k (Or.inr ⟨⟨k0, k1⟩, q, no⟩)
      rw [if_neg (by omega)] at this
      exact ⟨⟨by omega, by omega⟩, this⟩
    · by_cases z : j = k
      · rw [z, ← e43]; exact q
      · exact no j a (by omega)
