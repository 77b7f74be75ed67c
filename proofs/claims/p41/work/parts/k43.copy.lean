/-! ===== what waits goes on to the next page; what waits at the end ===== -/
section
variable {d : Nat} {h : qH} {f : Int → qH → qM → Prop} {B : pT} {c no nn pg n many : Int} {ans : Int → Int} {M : qM}
theorem k_436 {s : c_Mg} (hS : qSe h) (hn : 0 ≤ n ∧ n ≤ 20) (hp : 0 ≤ pg ∧ pg ≤ 1000) (e99 : ∀ i, 0 ≤ i → i < n → M 99 nn i = k_wc (mg_o s i)) (H : ∀ M', k_98 M M' → (∀ i, 0 ≤ i → i < n → M' 98 no i = k_wc (mg_o s i)) → ∀ u12 u13 u14 u15 u16 u17 u18 u19 u20 u21 : qV, b220_25 d h f c no nn many (pg + 1) u12 u13 u14 u15 u16 u17 u18 u19 u20 u21 M') (u12 u13 u15 u17 u18 u19 u20 u21 : qV) : b220_436 d h f c no nn many pg u12 u13 n u15 0 u17 u18 u19 u20 u21 M := by
  refine q_upto (P := fun i => ∀ M1 : qM, 0 ≤ i → k_98 M M1 → (∀ j, M1 99 nn j = M 99 nn j) → (∀ j, 0 ≤ j → j < i → M1 98 no j = k_wc (mg_o s j)) → b220_436 d h f c no nn many pg u12 u13 n u15 i u17 u18 u19 u20 u21 M1) (a := 0) (b := n) hn.1 (fun M1 _ O1 x99 x98 => ?_) (fun i i0 i1 ih M1 _ O1 x99 x98 => ?_) M (Int.le_refl _) (fun _ _ _ _ _ => rfl) (fun _ => rfl) (fun j a b => by omega)
  · exact w220_436 hS ⟨fun z => absurd z (Int.lt_irrefl _), fun _ => ⟨⟨by omega, by omega⟩, H M1 O1 x98 _ _ _ _ _ _ _ _ _ _⟩⟩
  · refine w220_436 hS ⟨fun _ => ⟨⟨by omega, by omega⟩, ⟨by omega, by omega⟩, fun M2 f2 => ⟨⟨by omega, by omega⟩, ih M2 (by omega) (fun k o s' a b => by rw [f2, qU_k a]; exact O1 k o s' a b) (fun j => by rw [f2, qU_k (by decide)]; exact x99 j) (fun j a b => ?_)⟩⟩, fun z => absurd i1 z⟩
    by_cases e : j = i
    · subst e; rw [f2, qU_s, x99, e99 j i0 i1]
    · rw [f2, qU_l e]; exact x98 j a (by omega)
theorem k_468 {s : c_Mg} (hS : qSe h) (hB : c_ok B) (hl : k_lim B) (hc : 0 ≤ c ∧ c < 3) (ok : mg_ok B c 16 s) (e98 : ∀ i, 0 ≤ i → i < mg_n s → M 98 no i = k_wc (mg_o s i))
    (Hm : ∀ i w, 0 ≤ i → i < B 0 c → 0 ≤ w → w < B 3 (10 * c + i) → ∀ F : Int → qH → qM → Prop, F (ans (200 * c + 20 * i + w)) h M → e180 (d + 5) h c i w M F)
    (Hun : ∀ i, 0 ≤ i → i < mg_n s → ans (mg_o s i) = -1) (H : f 1 h M) (u1 u2 u3 u4 u5 u6 u9 u12 u13 u14 u15 u16 u17 u18 u19 u20 u21 : qV) : b220_468 d h f u1 u2 u3 u4 u5 u6 c no u9 (mg_n s) 0 u12 u13 u14 u15 u16 u17 u18 u19 u20 u21 M := by
  have n16 := ok.2.1
  refine q_upto (P := fun i => 0 ≤ i → b220_468 d h f u1 u2 u3 u4 u5 u6 c no u9 (mg_n s) i u12 u13 u14 u15 u16 u17 u18 u19 u20 u21 M) (a := 0) (b := mg_n s) n16.1 (fun _ => w220_468 hS ⟨fun z => absurd z (Int.lt_irrefl _), fun _ => H⟩) (fun i i0 i1 ih _ => ?_) (Int.le_refl _)
  have hy := ok.2.2 i i0 i1
  have wc := k_wc_p hB hl hc hy.1 hy.2.1
  refine w220_468 hS ⟨fun _ => ⟨⟨by omega, by omega⟩, ?_⟩, fun z => absurd i1 z⟩
  rw [e98 i i0 i1]
  refine ⟨wc.1.1, by omega, ⟨by omega, by omega⟩, wc.1.1, ?_⟩
  rw [wc.2.2.2.1, wc.2.2.1]
  refine Hm _ _ wc.2.2.2.2.1.1 wc.2.2.2.2.1.2 wc.2.2.2.2.2.1.1 wc.2.2.2.2.2.1.2 _ ?_
  rw [← wc.2.2.2.2.2.2, Hun i i0 i1]
  exact ⟨fun _ => ⟨⟨by omega, by omega⟩, ih (by omega)⟩, fun z => absurd rfl z⟩
end
