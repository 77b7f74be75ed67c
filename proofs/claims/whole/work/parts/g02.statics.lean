/-! ===== the law's statics, by wip/gen/genlaw.py ===== -/
def p_stb (n : Int) (h : qH) (mc : qM → (Int → qM → Prop) → Prop) : qRQ := fun r σ => (∃ v M, (v = 0 ∨ v = 1) ∧ r = .inl (some (.inl 0)) ∧ σ = (h, M) ∧ mc M (fun b N => N 11 0 0 = 0 ∧ b = v ∧ N 138 0 0 = v ∧ c_Rel n N)) ∨ (∃ k M, k ≠ 0 ∧ r = .inl (some (.inl k)) ∧ σ = qBump (h, M) 1 6 ∧ mc M (fun _ N => N 11 0 0 = k ∧ c_Rel n N))
theorem b01 {b v : Int} (hb : b = v) (hv : v = 0 ∨ v = 1) (z : ¬ b = 0) : b = 1 := by omega
def p_st (n : Int) (h : qH) (mc : qM → (Int → qM → Prop) → Prop) : qRQ := fun r σ => (∃ v M, r = .inl (some (.inl 0)) ∧ σ = (h, M) ∧ mc M (fun b N => N 11 0 0 = 0 ∧ b = v ∧ N 138 0 0 = v ∧ c_Rel n N)) ∨ (∃ k M, k ≠ 0 ∧ r = .inl (some (.inl k)) ∧ σ = qBump (h, M) 1 6 ∧ mc M (fun _ N => N 11 0 0 = k ∧ c_Rel n N))
theorem l269 {D : Nat} {h : qH} {n p0 p1 : Int} {mc : qM → (Int → qM → Prop) → Prop} {M : qM} (H : e95 D h p0 p1 M (p_ok n mc) (p_ex n mc 1 0 0)) : qJ (D + 1) 269 [.inr (.inl (some (10, 0))), .inl p0, .inl p1, .inr (.inl (some (138, 0)))] (h, M) (p_st n h mc) := by
  refine qJ.flat 40 rfl (And.intro rfl (qJ.imp H (fun r σ' hr => ?_)))
  rcases hr with ⟨v, M', rfl, rfl, hm⟩ | ⟨e, M', rfl, rfl, hm⟩
  · exact And.intro ⟨by decide, by decide⟩ (Or.inl ⟨v, _, rfl, rfl, hm _ rfl⟩)
  · rcases hm with ⟨rfl, hk, hm⟩ | ⟨rfl, hk, hm⟩ | ⟨rfl, hk, hm⟩
    · exact Or.inr ⟨1, M', hk, rfl, rfl, hm⟩
    · exact absurd rfl hk
    · exact absurd rfl hk
theorem l270 {D : Nat} {h : qH} {n p0 p1 p2 : Int} {mc : qM → (Int → qM → Prop) → Prop} {M : qM} (H : e97 D h p0 p1 p2 M (p_ok n mc) (p_ex n mc 1 2 0)) : qJ (D + 1) 270 [.inr (.inl (some (10, 0))), .inl p0, .inl p1, .inl p2, .inr (.inl (some (138, 0)))] (h, M) (p_st n h mc) := by
  refine qJ.flat 40 rfl (And.intro rfl (qJ.imp H (fun r σ' hr => ?_)))
  rcases hr with ⟨v, M', rfl, rfl, hm⟩ | ⟨e, M', rfl, rfl, hm⟩
  · exact And.intro ⟨by decide, by decide⟩ (Or.inl ⟨v, _, rfl, rfl, hm _ rfl⟩)
  · rcases hm with ⟨rfl, hk, hm⟩ | ⟨rfl, hk, hm⟩ | ⟨rfl, hk, hm⟩
    · exact Or.inr ⟨1, M', hk, rfl, rfl, hm⟩
    · exact Or.inr ⟨2, M', hk, rfl, rfl, hm⟩
    · exact absurd rfl hk
theorem l271 {D : Nat} {h : qH} {n p0 : Int} {mc : qM → (Int → qM → Prop) → Prop} {M : qM} (H : e98 D h p0 M (p_ok n mc) (p_ex n mc 1 2 0)) : qJ (D + 1) 271 [.inr (.inl (some (10, 0))), .inl p0, .inr (.inl (some (138, 0)))] (h, M) (p_st n h mc) := by
  refine qJ.flat 40 rfl (And.intro rfl (qJ.imp H (fun r σ' hr => ?_)))
  rcases hr with ⟨v, M', rfl, rfl, hm⟩ | ⟨e, M', rfl, rfl, hm⟩
  · exact And.intro ⟨by decide, by decide⟩ (Or.inl ⟨v, _, rfl, rfl, hm _ rfl⟩)
  · rcases hm with ⟨rfl, hk, hm⟩ | ⟨rfl, hk, hm⟩ | ⟨rfl, hk, hm⟩
    · exact Or.inr ⟨1, M', hk, rfl, rfl, hm⟩
    · exact Or.inr ⟨2, M', hk, rfl, rfl, hm⟩
    · exact absurd rfl hk
theorem l272 {D : Nat} {h : qH} {n p0 : Int} {mc : qM → (Int → qM → Prop) → Prop} {M : qM} (H : e100 D h p0 M (p_ok n mc) (p_ex n mc 0 2 1)) : qJ (D + 1) 272 [.inr (.inl (some (10, 0))), .inl p0, .inr (.inl (some (138, 0)))] (h, M) (p_st n h mc) := by
  refine qJ.flat 40 rfl (And.intro rfl (qJ.imp H (fun r σ' hr => ?_)))
  rcases hr with ⟨v, M', rfl, rfl, hm⟩ | ⟨e, M', rfl, rfl, hm⟩
  · exact And.intro ⟨by decide, by decide⟩ (Or.inl ⟨v, _, rfl, rfl, hm _ rfl⟩)
  · rcases hm with ⟨rfl, hk, hm⟩ | ⟨rfl, hk, hm⟩ | ⟨rfl, hk, hm⟩
    · exact absurd rfl hk
    · exact Or.inr ⟨2, M', hk, rfl, rfl, hm⟩
    · exact Or.inr ⟨1, M', hk, rfl, rfl, hm⟩
theorem l273 {D : Nat} {h : qH} {n p0 p1 p2 : Int} {mc : qM → (Int → qM → Prop) → Prop} {M : qM} (H : e101 D h p0 p1 p2 M (p_ok n mc) (p_ex n mc 2 3 1)) : qJ (D + 1) 273 [.inr (.inl (some (10, 0))), .inl p0, .inl p1, .inl p2, .inr (.inl (some (138, 0)))] (h, M) (p_st n h mc) := by
  refine qJ.flat 40 rfl (And.intro rfl (qJ.imp H (fun r σ' hr => ?_)))
  rcases hr with ⟨v, M', rfl, rfl, hm⟩ | ⟨e, M', rfl, rfl, hm⟩
  · exact And.intro ⟨by decide, by decide⟩ (Or.inl ⟨v, _, rfl, rfl, hm _ rfl⟩)
  · rcases hm with ⟨rfl, hk, hm⟩ | ⟨rfl, hk, hm⟩ | ⟨rfl, hk, hm⟩
    · exact Or.inr ⟨2, M', hk, rfl, rfl, hm⟩
    · exact Or.inr ⟨3, M', hk, rfl, rfl, hm⟩
    · exact Or.inr ⟨1, M', hk, rfl, rfl, hm⟩
theorem l274 {D : Nat} {h : qH} {n p0 p1 : Int} {mc : qM → (Int → qM → Prop) → Prop} {M : qM} (H : e102 D h p0 p1 M (p_ok n mc) (p_ex n mc 0 2 1)) : qJ (D + 1) 274 [.inr (.inl (some (10, 0))), .inl p0, .inl p1, .inr (.inl (some (138, 0)))] (h, M) (p_st n h mc) := by
  refine qJ.flat 40 rfl (And.intro rfl (qJ.imp H (fun r σ' hr => ?_)))
  rcases hr with ⟨v, M', rfl, rfl, hm⟩ | ⟨e, M', rfl, rfl, hm⟩
  · exact And.intro ⟨by decide, by decide⟩ (Or.inl ⟨v, _, rfl, rfl, hm _ rfl⟩)
  · rcases hm with ⟨rfl, hk, hm⟩ | ⟨rfl, hk, hm⟩ | ⟨rfl, hk, hm⟩
    · exact absurd rfl hk
    · exact Or.inr ⟨2, M', hk, rfl, rfl, hm⟩
    · exact Or.inr ⟨1, M', hk, rfl, rfl, hm⟩
theorem l275 {D : Nat} {h : qH} {n p0 p1 : Int} {mc : qM → (Int → qM → Prop) → Prop} {M : qM} (H : e103 D h p0 p1 M (p_ok n mc) (p_ex n mc 2 0 1)) : qJ (D + 1) 275 [.inr (.inl (some (10, 0))), .inl p0, .inl p1, .inr (.inl (some (138, 0)))] (h, M) (p_st n h mc) := by
  refine qJ.flat 40 rfl (And.intro rfl (qJ.imp H (fun r σ' hr => ?_)))
  rcases hr with ⟨v, M', rfl, rfl, hm⟩ | ⟨e, M', rfl, rfl, hm⟩
  · exact And.intro ⟨by decide, by decide⟩ (Or.inl ⟨v, _, rfl, rfl, hm _ rfl⟩)
  · rcases hm with ⟨rfl, hk, hm⟩ | ⟨rfl, hk, hm⟩ | ⟨rfl, hk, hm⟩
    · exact Or.inr ⟨2, M', hk, rfl, rfl, hm⟩
    · exact absurd rfl hk
    · exact Or.inr ⟨1, M', hk, rfl, rfl, hm⟩
theorem l276 {D : Nat} {h : qH} {n p0 : Int} {mc : qM → (Int → qM → Prop) → Prop} {M : qM} (H : e104 D h p0 M (p_ok n mc) (p_ex n mc 0 1 0)) : qJ (D + 1) 276 [.inr (.inl (some (10, 0))), .inl p0, .inr (.inl (some (138, 0)))] (h, M) (p_st n h mc) := by
  refine qJ.flat 40 rfl (And.intro rfl (qJ.imp H (fun r σ' hr => ?_)))
  rcases hr with ⟨v, M', rfl, rfl, hm⟩ | ⟨e, M', rfl, rfl, hm⟩
  · exact And.intro ⟨by decide, by decide⟩ (Or.inl ⟨v, _, rfl, rfl, hm _ rfl⟩)
  · rcases hm with ⟨rfl, hk, hm⟩ | ⟨rfl, hk, hm⟩ | ⟨rfl, hk, hm⟩
    · exact absurd rfl hk
    · exact Or.inr ⟨1, M', hk, rfl, rfl, hm⟩
    · exact absurd rfl hk
theorem l277 {D : Nat} {h : qH} {n : Int} {mc : qM → (Int → qM → Prop) → Prop} {M : qM} (H : e105 D h M (p_ok n mc) (p_ex n mc 0 1 0)) : qJ (D + 1) 277 [.inr (.inl (some (10, 0))), .inr (.inl (some (138, 0)))] (h, M) (p_st n h mc) := by
  refine qJ.flat 40 rfl (And.intro rfl (qJ.imp H (fun r σ' hr => ?_)))
  rcases hr with ⟨v, M', rfl, rfl, hm⟩ | ⟨e, M', rfl, rfl, hm⟩
  · exact And.intro ⟨by decide, by decide⟩ (Or.inl ⟨v, _, rfl, rfl, hm _ rfl⟩)
  · rcases hm with ⟨rfl, hk, hm⟩ | ⟨rfl, hk, hm⟩ | ⟨rfl, hk, hm⟩
    · exact absurd rfl hk
    · exact Or.inr ⟨1, M', hk, rfl, rfl, hm⟩
    · exact absurd rfl hk
theorem l278 {D : Nat} {h : qH} {n p0 : Int} {mc : qM → (Int → qM → Prop) → Prop} {M : qM} (H : e107 D h p0 M (p_ok n mc) (p_ex n mc 0 0 1)) : qJ (D + 1) 278 [.inr (.inl (some (10, 0))), .inl p0, .inr (.inl (some (138, 0)))] (h, M) (p_st n h mc) := by
  refine qJ.flat 40 rfl (And.intro rfl (qJ.imp H (fun r σ' hr => ?_)))
  rcases hr with ⟨v, M', rfl, rfl, hm⟩ | ⟨e, M', rfl, rfl, hm⟩
  · exact And.intro ⟨by decide, by decide⟩ (Or.inl ⟨v, _, rfl, rfl, hm _ rfl⟩)
  · rcases hm with ⟨rfl, hk, hm⟩ | ⟨rfl, hk, hm⟩ | ⟨rfl, hk, hm⟩
    · exact absurd rfl hk
    · exact absurd rfl hk
    · exact Or.inr ⟨1, M', hk, rfl, rfl, hm⟩
theorem l279 {D : Nat} {h : qH} {n p0 p1 : Int} {mc : qM → (Int → qM → Prop) → Prop} {M : qM} (H : e108 D h p0 p1 M (p_ok n mc) (p_ex n mc 0 0 1)) : qJ (D + 1) 279 [.inr (.inl (some (10, 0))), .inl p0, .inl p1, .inr (.inl (some (138, 0)))] (h, M) (p_st n h mc) := by
  refine qJ.flat 40 rfl (And.intro rfl (qJ.imp H (fun r σ' hr => ?_)))
  rcases hr with ⟨v, M', rfl, rfl, hm⟩ | ⟨e, M', rfl, rfl, hm⟩
  · exact And.intro ⟨by decide, by decide⟩ (Or.inl ⟨v, _, rfl, rfl, hm _ rfl⟩)
  · rcases hm with ⟨rfl, hk, hm⟩ | ⟨rfl, hk, hm⟩ | ⟨rfl, hk, hm⟩
    · exact absurd rfl hk
    · exact absurd rfl hk
    · exact Or.inr ⟨1, M', hk, rfl, rfl, hm⟩
theorem l280 {D : Nat} {h : qH} {n p0 p1 p2 : Int} {mc : qM → (Int → qM → Prop) → Prop} {M : qM} (H : e109 D h p0 p1 p2 M (p_ok n mc) (p_ex n mc 0 2 1)) : qJ (D + 1) 280 [.inr (.inl (some (10, 0))), .inl p0, .inl p1, .inl p2, .inr (.inl (some (138, 0)))] (h, M) (p_st n h mc) := by
  refine qJ.flat 40 rfl (And.intro rfl (qJ.imp H (fun r σ' hr => ?_)))
  rcases hr with ⟨v, M', rfl, rfl, hm⟩ | ⟨e, M', rfl, rfl, hm⟩
  · exact And.intro ⟨by decide, by decide⟩ (Or.inl ⟨v, _, rfl, rfl, hm _ rfl⟩)
  · rcases hm with ⟨rfl, hk, hm⟩ | ⟨rfl, hk, hm⟩ | ⟨rfl, hk, hm⟩
    · exact absurd rfl hk
    · exact Or.inr ⟨2, M', hk, rfl, rfl, hm⟩
    · exact Or.inr ⟨1, M', hk, rfl, rfl, hm⟩
theorem l281 {D : Nat} {h : qH} {n p0 p1 : Int} {mc : qM → (Int → qM → Prop) → Prop} {M : qM} (H : e110 D h p0 p1 M (p_ok n mc) (p_ex n mc 0 2 1)) : qJ (D + 1) 281 [.inr (.inl (some (10, 0))), .inl p0, .inl p1, .inr (.inl (some (138, 0)))] (h, M) (p_st n h mc) := by
  refine qJ.flat 40 rfl (And.intro rfl (qJ.imp H (fun r σ' hr => ?_)))
  rcases hr with ⟨v, M', rfl, rfl, hm⟩ | ⟨e, M', rfl, rfl, hm⟩
  · exact And.intro ⟨by decide, by decide⟩ (Or.inl ⟨v, _, rfl, rfl, hm _ rfl⟩)
  · rcases hm with ⟨rfl, hk, hm⟩ | ⟨rfl, hk, hm⟩ | ⟨rfl, hk, hm⟩
    · exact absurd rfl hk
    · exact Or.inr ⟨2, M', hk, rfl, rfl, hm⟩
    · exact Or.inr ⟨1, M', hk, rfl, rfl, hm⟩
theorem l282 {D : Nat} {h : qH} {n p0 p1 p2 : Int} {mc : qM → (Int → qM → Prop) → Prop} {M : qM} (H : e111 D h p0 p1 p2 M (p_ok n mc) (p_ex n mc 0 2 1)) : qJ (D + 1) 282 [.inr (.inl (some (10, 0))), .inl p0, .inl p1, .inl p2, .inr (.inl (some (138, 0)))] (h, M) (p_st n h mc) := by
  refine qJ.flat 40 rfl (And.intro rfl (qJ.imp H (fun r σ' hr => ?_)))
  rcases hr with ⟨v, M', rfl, rfl, hm⟩ | ⟨e, M', rfl, rfl, hm⟩
  · exact And.intro ⟨by decide, by decide⟩ (Or.inl ⟨v, _, rfl, rfl, hm _ rfl⟩)
  · rcases hm with ⟨rfl, hk, hm⟩ | ⟨rfl, hk, hm⟩ | ⟨rfl, hk, hm⟩
    · exact absurd rfl hk
    · exact Or.inr ⟨2, M', hk, rfl, rfl, hm⟩
    · exact Or.inr ⟨1, M', hk, rfl, rfl, hm⟩
theorem l283 {D : Nat} {h : qH} {n p0 p1 : Int} {mc : qM → (Int → qM → Prop) → Prop} {M : qM} (H : e112 D h p0 p1 M (p_ok n mc) (p_ex n mc 0 2 1)) : qJ (D + 1) 283 [.inr (.inl (some (10, 0))), .inl p0, .inl p1, .inr (.inl (some (138, 0)))] (h, M) (p_st n h mc) := by
  refine qJ.flat 40 rfl (And.intro rfl (qJ.imp H (fun r σ' hr => ?_)))
  rcases hr with ⟨v, M', rfl, rfl, hm⟩ | ⟨e, M', rfl, rfl, hm⟩
  · exact And.intro ⟨by decide, by decide⟩ (Or.inl ⟨v, _, rfl, rfl, hm _ rfl⟩)
  · rcases hm with ⟨rfl, hk, hm⟩ | ⟨rfl, hk, hm⟩ | ⟨rfl, hk, hm⟩
    · exact absurd rfl hk
    · exact Or.inr ⟨2, M', hk, rfl, rfl, hm⟩
    · exact Or.inr ⟨1, M', hk, rfl, rfl, hm⟩
theorem l284 {D : Nat} {h : qH} {n p0 : Int} {mc : qM → (Int → qM → Prop) → Prop} {M : qM} (H : e113 D h p0 M (p_ok n mc) (p_ex n mc 0 2 1)) : qJ (D + 1) 284 [.inr (.inl (some (10, 0))), .inl p0, .inr (.inl (some (138, 0)))] (h, M) (p_st n h mc) := by
  refine qJ.flat 40 rfl (And.intro rfl (qJ.imp H (fun r σ' hr => ?_)))
  rcases hr with ⟨v, M', rfl, rfl, hm⟩ | ⟨e, M', rfl, rfl, hm⟩
  · exact And.intro ⟨by decide, by decide⟩ (Or.inl ⟨v, _, rfl, rfl, hm _ rfl⟩)
  · rcases hm with ⟨rfl, hk, hm⟩ | ⟨rfl, hk, hm⟩ | ⟨rfl, hk, hm⟩
    · exact absurd rfl hk
    · exact Or.inr ⟨2, M', hk, rfl, rfl, hm⟩
    · exact Or.inr ⟨1, M', hk, rfl, rfl, hm⟩
theorem l285 {D : Nat} {h : qH} {n : Int} {mc : qM → (Int → qM → Prop) → Prop} {M : qM} (H : e114 D h M (p_ok n mc) (p_ex n mc 0 1 0)) : qJ (D + 1) 285 [.inr (.inl (some (10, 0))), .inr (.inl (some (138, 0)))] (h, M) (p_st n h mc) := by
  refine qJ.flat 40 rfl (And.intro rfl (qJ.imp H (fun r σ' hr => ?_)))
  rcases hr with ⟨v, M', rfl, rfl, hm⟩ | ⟨e, M', rfl, rfl, hm⟩
  · exact And.intro ⟨by decide, by decide⟩ (Or.inl ⟨v, _, rfl, rfl, hm _ rfl⟩)
  · rcases hm with ⟨rfl, hk, hm⟩ | ⟨rfl, hk, hm⟩ | ⟨rfl, hk, hm⟩
    · exact absurd rfl hk
    · exact Or.inr ⟨1, M', hk, rfl, rfl, hm⟩
    · exact absurd rfl hk
theorem l286 {D : Nat} {h : qH} {n : Int} {mc : qM → (Int → qM → Prop) → Prop} {M : qM} (H : e115 D h M (p_ok n mc) (p_ex n mc 0 1 0)) : qJ (D + 1) 286 [.inr (.inl (some (10, 0))), .inr (.inl (some (138, 0)))] (h, M) (p_st n h mc) := by
  refine qJ.flat 40 rfl (And.intro rfl (qJ.imp H (fun r σ' hr => ?_)))
  rcases hr with ⟨v, M', rfl, rfl, hm⟩ | ⟨e, M', rfl, rfl, hm⟩
  · exact And.intro ⟨by decide, by decide⟩ (Or.inl ⟨v, _, rfl, rfl, hm _ rfl⟩)
  · rcases hm with ⟨rfl, hk, hm⟩ | ⟨rfl, hk, hm⟩ | ⟨rfl, hk, hm⟩
    · exact absurd rfl hk
    · exact Or.inr ⟨1, M', hk, rfl, rfl, hm⟩
    · exact absurd rfl hk
theorem l287 {D : Nat} {h : qH} {n p0 : Int} {mc : qM → (Int → qM → Prop) → Prop} {M : qM} (H : e116 D h p0 M (p_ok n mc) (p_ex n mc 0 2 1)) : qJ (D + 1) 287 [.inr (.inl (some (10, 0))), .inl p0, .inr (.inl (some (138, 0)))] (h, M) (p_st n h mc) := by
  refine qJ.flat 40 rfl (And.intro rfl (qJ.imp H (fun r σ' hr => ?_)))
  rcases hr with ⟨v, M', rfl, rfl, hm⟩ | ⟨e, M', rfl, rfl, hm⟩
  · exact And.intro ⟨by decide, by decide⟩ (Or.inl ⟨v, _, rfl, rfl, hm _ rfl⟩)
  · rcases hm with ⟨rfl, hk, hm⟩ | ⟨rfl, hk, hm⟩ | ⟨rfl, hk, hm⟩
    · exact absurd rfl hk
    · exact Or.inr ⟨2, M', hk, rfl, rfl, hm⟩
    · exact Or.inr ⟨1, M', hk, rfl, rfl, hm⟩
theorem l288 {D : Nat} {h : qH} {n p0 p1 : Int} {mc : qM → (Int → qM → Prop) → Prop} {M : qM} (H : e117 D h p0 p1 M (p_ok n mc) (p_ex n mc 0 2 1)) : qJ (D + 1) 288 [.inr (.inl (some (10, 0))), .inl p0, .inl p1, .inr (.inl (some (138, 0)))] (h, M) (p_st n h mc) := by
  refine qJ.flat 40 rfl (And.intro rfl (qJ.imp H (fun r σ' hr => ?_)))
  rcases hr with ⟨v, M', rfl, rfl, hm⟩ | ⟨e, M', rfl, rfl, hm⟩
  · exact And.intro ⟨by decide, by decide⟩ (Or.inl ⟨v, _, rfl, rfl, hm _ rfl⟩)
  · rcases hm with ⟨rfl, hk, hm⟩ | ⟨rfl, hk, hm⟩ | ⟨rfl, hk, hm⟩
    · exact absurd rfl hk
    · exact Or.inr ⟨2, M', hk, rfl, rfl, hm⟩
    · exact Or.inr ⟨1, M', hk, rfl, rfl, hm⟩
theorem l289 {D : Nat} {h : qH} {n p0 p1 : Int} {mc : qM → (Int → qM → Prop) → Prop} {M : qM} (H : e118 D h p0 p1 M (p_ok n mc) (p_ex n mc 0 2 1)) : qJ (D + 1) 289 [.inr (.inl (some (10, 0))), .inl p0, .inl p1, .inr (.inl (some (138, 0)))] (h, M) (p_st n h mc) := by
  refine qJ.flat 40 rfl (And.intro rfl (qJ.imp H (fun r σ' hr => ?_)))
  rcases hr with ⟨v, M', rfl, rfl, hm⟩ | ⟨e, M', rfl, rfl, hm⟩
  · exact And.intro ⟨by decide, by decide⟩ (Or.inl ⟨v, _, rfl, rfl, hm _ rfl⟩)
  · rcases hm with ⟨rfl, hk, hm⟩ | ⟨rfl, hk, hm⟩ | ⟨rfl, hk, hm⟩
    · exact absurd rfl hk
    · exact Or.inr ⟨2, M', hk, rfl, rfl, hm⟩
    · exact Or.inr ⟨1, M', hk, rfl, rfl, hm⟩
theorem l290 {D : Nat} {h : qH} {n p0 p1 : Int} {mc : qM → (Int → qM → Prop) → Prop} {M : qM} (H : e119 D h p0 p1 M (p_ok n mc) (p_ex n mc 2 3 1)) : qJ (D + 1) 290 [.inr (.inl (some (10, 0))), .inl p0, .inl p1, .inr (.inl (some (138, 0)))] (h, M) (p_st n h mc) := by
  refine qJ.flat 40 rfl (And.intro rfl (qJ.imp H (fun r σ' hr => ?_)))
  rcases hr with ⟨v, M', rfl, rfl, hm⟩ | ⟨e, M', rfl, rfl, hm⟩
  · exact And.intro ⟨by decide, by decide⟩ (Or.inl ⟨v, _, rfl, rfl, hm _ rfl⟩)
  · rcases hm with ⟨rfl, hk, hm⟩ | ⟨rfl, hk, hm⟩ | ⟨rfl, hk, hm⟩
    · exact Or.inr ⟨2, M', hk, rfl, rfl, hm⟩
    · exact Or.inr ⟨3, M', hk, rfl, rfl, hm⟩
    · exact Or.inr ⟨1, M', hk, rfl, rfl, hm⟩
theorem l291 {D : Nat} {h : qH} {n p0 : Int} {mc : qM → (Int → qM → Prop) → Prop} {M : qM} (H : e120 D h p0 M (p_ok n mc) (p_ex n mc 0 2 1)) : qJ (D + 1) 291 [.inr (.inl (some (10, 0))), .inl p0, .inr (.inl (some (138, 0)))] (h, M) (p_st n h mc) := by
  refine qJ.flat 40 rfl (And.intro rfl (qJ.imp H (fun r σ' hr => ?_)))
  rcases hr with ⟨v, M', rfl, rfl, hm⟩ | ⟨e, M', rfl, rfl, hm⟩
  · exact And.intro ⟨by decide, by decide⟩ (Or.inl ⟨v, _, rfl, rfl, hm _ rfl⟩)
  · rcases hm with ⟨rfl, hk, hm⟩ | ⟨rfl, hk, hm⟩ | ⟨rfl, hk, hm⟩
    · exact absurd rfl hk
    · exact Or.inr ⟨2, M', hk, rfl, rfl, hm⟩
    · exact Or.inr ⟨1, M', hk, rfl, rfl, hm⟩
theorem l292 {D : Nat} {h : qH} {n p0 : Int} {mc : qM → (Int → qM → Prop) → Prop} {M : qM} (H : e121 D h p0 M (p_ok n mc) (p_ex n mc 0 2 1)) : qJ (D + 1) 292 [.inr (.inl (some (10, 0))), .inl p0, .inr (.inl (some (138, 0)))] (h, M) (p_st n h mc) := by
  refine qJ.flat 40 rfl (And.intro rfl (qJ.imp H (fun r σ' hr => ?_)))
  rcases hr with ⟨v, M', rfl, rfl, hm⟩ | ⟨e, M', rfl, rfl, hm⟩
  · exact And.intro ⟨by decide, by decide⟩ (Or.inl ⟨v, _, rfl, rfl, hm _ rfl⟩)
  · rcases hm with ⟨rfl, hk, hm⟩ | ⟨rfl, hk, hm⟩ | ⟨rfl, hk, hm⟩
    · exact absurd rfl hk
    · exact Or.inr ⟨2, M', hk, rfl, rfl, hm⟩
    · exact Or.inr ⟨1, M', hk, rfl, rfl, hm⟩
theorem l293 {D : Nat} {h : qH} {n : Int} {mc : qM → (Int → qM → Prop) → Prop} {M : qM} (H : e122 D h M (fun v M => (v = 0 ∨ v = 1) ∧ p_ok n mc v M) (p_ex n mc 0 1 0)) : qJ (D + 1) 293 [.inr (.inl (some (10, 0))), .inr (.inl (some (138, 0)))] (h, M) (p_stb n h mc) := by
  refine qJ.flat 40 rfl (And.intro rfl (qJ.imp H (fun r σ' hr => ?_)))
  rcases hr with ⟨v, M', rfl, rfl, hm⟩ | ⟨e, M', rfl, rfl, hm⟩
  · refine And.intro (fun z => And.intro ⟨by decide, by decide⟩ (Or.inl ⟨v, _, hm.1, rfl, rfl, hm.2 _ ?_⟩)) (fun z => And.intro ⟨by decide, by decide⟩ (Or.inl ⟨v, _, hm.1, rfl, rfl, hm.2 _ ?_⟩))
    · show qU M' 138 0 0 0 = _
      rw [z]
    · show qU M' 138 0 0 1 = _
      rw [show v = 1 from hm.1.resolve_left z]
  · rcases hm with ⟨rfl, hk, hm⟩ | ⟨rfl, hk, hm⟩ | ⟨rfl, hk, hm⟩
    · exact absurd rfl hk
    · exact Or.inr ⟨1, M', hk, rfl, rfl, hm⟩
    · exact absurd rfl hk
theorem l294 {D : Nat} {h : qH} {n p0 p1 p2 : Int} {mc : qM → (Int → qM → Prop) → Prop} {M : qM} (H : e123 D h p0 p1 p2 M (p_ok n mc) (p_ex n mc 0 2 1)) : qJ (D + 1) 294 [.inr (.inl (some (10, 0))), .inl p0, .inl p1, .inl p2, .inr (.inl (some (138, 0)))] (h, M) (p_st n h mc) := by
  refine qJ.flat 40 rfl (And.intro rfl (qJ.imp H (fun r σ' hr => ?_)))
  rcases hr with ⟨v, M', rfl, rfl, hm⟩ | ⟨e, M', rfl, rfl, hm⟩
  · exact And.intro ⟨by decide, by decide⟩ (Or.inl ⟨v, _, rfl, rfl, hm _ rfl⟩)
  · rcases hm with ⟨rfl, hk, hm⟩ | ⟨rfl, hk, hm⟩ | ⟨rfl, hk, hm⟩
    · exact absurd rfl hk
    · exact Or.inr ⟨2, M', hk, rfl, rfl, hm⟩
    · exact Or.inr ⟨1, M', hk, rfl, rfl, hm⟩
theorem l295 {D : Nat} {h : qH} {n p0 p1 p2 : Int} {mc : qM → (Int → qM → Prop) → Prop} {M : qM} (H : e124 D h p0 p1 p2 M (p_ok n mc) (p_ex n mc 0 2 1)) : qJ (D + 1) 295 [.inr (.inl (some (10, 0))), .inl p0, .inl p1, .inl p2, .inr (.inl (some (138, 0)))] (h, M) (p_st n h mc) := by
  refine qJ.flat 40 rfl (And.intro rfl (qJ.imp H (fun r σ' hr => ?_)))
  rcases hr with ⟨v, M', rfl, rfl, hm⟩ | ⟨e, M', rfl, rfl, hm⟩
  · exact And.intro ⟨by decide, by decide⟩ (Or.inl ⟨v, _, rfl, rfl, hm _ rfl⟩)
  · rcases hm with ⟨rfl, hk, hm⟩ | ⟨rfl, hk, hm⟩ | ⟨rfl, hk, hm⟩
    · exact absurd rfl hk
    · exact Or.inr ⟨2, M', hk, rfl, rfl, hm⟩
    · exact Or.inr ⟨1, M', hk, rfl, rfl, hm⟩
theorem l296 {D : Nat} {h : qH} {n p0 p1 : Int} {mc : qM → (Int → qM → Prop) → Prop} {M : qM} (H : e125 D h p0 p1 M (p_ok n mc) (p_ex n mc 0 2 1)) : qJ (D + 1) 296 [.inr (.inl (some (10, 0))), .inl p0, .inl p1, .inr (.inl (some (138, 0)))] (h, M) (p_st n h mc) := by
  refine qJ.flat 40 rfl (And.intro rfl (qJ.imp H (fun r σ' hr => ?_)))
  rcases hr with ⟨v, M', rfl, rfl, hm⟩ | ⟨e, M', rfl, rfl, hm⟩
  · exact And.intro ⟨by decide, by decide⟩ (Or.inl ⟨v, _, rfl, rfl, hm _ rfl⟩)
  · rcases hm with ⟨rfl, hk, hm⟩ | ⟨rfl, hk, hm⟩ | ⟨rfl, hk, hm⟩
    · exact absurd rfl hk
    · exact Or.inr ⟨2, M', hk, rfl, rfl, hm⟩
    · exact Or.inr ⟨1, M', hk, rfl, rfl, hm⟩
theorem l297 {D : Nat} {h : qH} {n p0 p1 p2 : Int} {mc : qM → (Int → qM → Prop) → Prop} {M : qM} (H : e126 D h p0 p1 p2 M (p_ok n mc) (p_ex n mc 0 2 1)) : qJ (D + 1) 297 [.inr (.inl (some (10, 0))), .inl p0, .inl p1, .inl p2, .inr (.inl (some (138, 0)))] (h, M) (p_st n h mc) := by
  refine qJ.flat 40 rfl (And.intro rfl (qJ.imp H (fun r σ' hr => ?_)))
  rcases hr with ⟨v, M', rfl, rfl, hm⟩ | ⟨e, M', rfl, rfl, hm⟩
  · exact And.intro ⟨by decide, by decide⟩ (Or.inl ⟨v, _, rfl, rfl, hm _ rfl⟩)
  · rcases hm with ⟨rfl, hk, hm⟩ | ⟨rfl, hk, hm⟩ | ⟨rfl, hk, hm⟩
    · exact absurd rfl hk
    · exact Or.inr ⟨2, M', hk, rfl, rfl, hm⟩
    · exact Or.inr ⟨1, M', hk, rfl, rfl, hm⟩
theorem l298 {D : Nat} {h : qH} {n p0 : Int} {mc : qM → (Int → qM → Prop) → Prop} {M : qM} (H : e127 D h p0 M (p_ok n mc) (p_ex n mc 0 2 1)) : qJ (D + 1) 298 [.inr (.inl (some (10, 0))), .inl p0, .inr (.inl (some (138, 0)))] (h, M) (p_st n h mc) := by
  refine qJ.flat 40 rfl (And.intro rfl (qJ.imp H (fun r σ' hr => ?_)))
  rcases hr with ⟨v, M', rfl, rfl, hm⟩ | ⟨e, M', rfl, rfl, hm⟩
  · exact And.intro ⟨by decide, by decide⟩ (Or.inl ⟨v, _, rfl, rfl, hm _ rfl⟩)
  · rcases hm with ⟨rfl, hk, hm⟩ | ⟨rfl, hk, hm⟩ | ⟨rfl, hk, hm⟩
    · exact absurd rfl hk
    · exact Or.inr ⟨2, M', hk, rfl, rfl, hm⟩
    · exact Or.inr ⟨1, M', hk, rfl, rfl, hm⟩
theorem l299 {D : Nat} {h : qH} {n p0 p1 p2 : Int} {mc : qM → (Int → qM → Prop) → Prop} {M : qM} (H : e128 D h p0 p1 p2 M (p_ok n mc) (p_ex n mc 2 3 1)) : qJ (D + 1) 299 [.inr (.inl (some (10, 0))), .inl p0, .inl p1, .inl p2, .inr (.inl (some (138, 0)))] (h, M) (p_st n h mc) := by
  refine qJ.flat 40 rfl (And.intro rfl (qJ.imp H (fun r σ' hr => ?_)))
  rcases hr with ⟨v, M', rfl, rfl, hm⟩ | ⟨e, M', rfl, rfl, hm⟩
  · exact And.intro ⟨by decide, by decide⟩ (Or.inl ⟨v, _, rfl, rfl, hm _ rfl⟩)
  · rcases hm with ⟨rfl, hk, hm⟩ | ⟨rfl, hk, hm⟩ | ⟨rfl, hk, hm⟩
    · exact Or.inr ⟨2, M', hk, rfl, rfl, hm⟩
    · exact Or.inr ⟨3, M', hk, rfl, rfl, hm⟩
    · exact Or.inr ⟨1, M', hk, rfl, rfl, hm⟩
theorem l300 {D : Nat} {h : qH} {n : Int} {mc : qM → (Int → qM → Prop) → Prop} {M : qM} (H : e129 D h M (p_ok n mc) (p_ex n mc 0 1 0)) : qJ (D + 1) 300 [.inr (.inl (some (10, 0))), .inr (.inl (some (138, 0)))] (h, M) (p_st n h mc) := by
  refine qJ.flat 40 rfl (And.intro rfl (qJ.imp H (fun r σ' hr => ?_)))
  rcases hr with ⟨v, M', rfl, rfl, hm⟩ | ⟨e, M', rfl, rfl, hm⟩
  · exact And.intro ⟨by decide, by decide⟩ (Or.inl ⟨v, _, rfl, rfl, hm _ rfl⟩)
  · rcases hm with ⟨rfl, hk, hm⟩ | ⟨rfl, hk, hm⟩ | ⟨rfl, hk, hm⟩
    · exact absurd rfl hk
    · exact Or.inr ⟨1, M', hk, rfl, rfl, hm⟩
    · exact absurd rfl hk
theorem l301 {D : Nat} {h : qH} {n p0 : Int} {mc : qM → (Int → qM → Prop) → Prop} {M : qM} (H : e130 D h p0 M (p_ok n mc) (p_ex n mc 1 2 0)) : qJ (D + 1) 301 [.inr (.inl (some (10, 0))), .inl p0, .inr (.inl (some (138, 0)))] (h, M) (p_st n h mc) := by
  refine qJ.flat 40 rfl (And.intro rfl (qJ.imp H (fun r σ' hr => ?_)))
  rcases hr with ⟨v, M', rfl, rfl, hm⟩ | ⟨e, M', rfl, rfl, hm⟩
  · exact And.intro ⟨by decide, by decide⟩ (Or.inl ⟨v, _, rfl, rfl, hm _ rfl⟩)
  · rcases hm with ⟨rfl, hk, hm⟩ | ⟨rfl, hk, hm⟩ | ⟨rfl, hk, hm⟩
    · exact Or.inr ⟨1, M', hk, rfl, rfl, hm⟩
    · exact Or.inr ⟨2, M', hk, rfl, rfl, hm⟩
    · exact absurd rfl hk
theorem l302 {D : Nat} {h : qH} {n : Int} {mc : qM → (Int → qM → Prop) → Prop} {M : qM} (H : e131 D h M (p_ok n mc) (p_ex n mc 0 1 0)) : qJ (D + 1) 302 [.inr (.inl (some (10, 0))), .inr (.inl (some (138, 0)))] (h, M) (p_st n h mc) := by
  refine qJ.flat 40 rfl (And.intro rfl (qJ.imp H (fun r σ' hr => ?_)))
  rcases hr with ⟨v, M', rfl, rfl, hm⟩ | ⟨e, M', rfl, rfl, hm⟩
  · exact And.intro ⟨by decide, by decide⟩ (Or.inl ⟨v, _, rfl, rfl, hm _ rfl⟩)
  · rcases hm with ⟨rfl, hk, hm⟩ | ⟨rfl, hk, hm⟩ | ⟨rfl, hk, hm⟩
    · exact absurd rfl hk
    · exact Or.inr ⟨1, M', hk, rfl, rfl, hm⟩
    · exact absurd rfl hk
theorem l303 {D : Nat} {h : qH} {n : Int} {mc : qM → (Int → qM → Prop) → Prop} {M : qM} (H : e132 D h M (p_ok n mc) (p_ex n mc 0 1 0)) : qJ (D + 1) 303 [.inr (.inl (some (10, 0))), .inr (.inl (some (138, 0)))] (h, M) (p_st n h mc) := by
  refine qJ.flat 40 rfl (And.intro rfl (qJ.imp H (fun r σ' hr => ?_)))
  rcases hr with ⟨v, M', rfl, rfl, hm⟩ | ⟨e, M', rfl, rfl, hm⟩
  · exact And.intro ⟨by decide, by decide⟩ (Or.inl ⟨v, _, rfl, rfl, hm _ rfl⟩)
  · rcases hm with ⟨rfl, hk, hm⟩ | ⟨rfl, hk, hm⟩ | ⟨rfl, hk, hm⟩
    · exact absurd rfl hk
    · exact Or.inr ⟨1, M', hk, rfl, rfl, hm⟩
    · exact absurd rfl hk
theorem y122b {d d' : Nat} {h : qH} (hS : qSe h) {n : Int} {B : pT} {M : qM} (hn : n < 512) (hr : c_rl n B M) : e122 (d + 2) h M (fun v M => (v = 0 ∨ v = 1) ∧ p_ok (n + 1) (e243 (d' + 2) h) v M) (p_ex (n + 1) (e243 (d' + 2) h) 0 1 0) := by
  have y := (y_b hr).2.2.1
  refine w122 hS (t138 hS (fun m => ?_) (fun m => Or.inr (Or.inl ⟨rfl, by decide, p_exc hn hr (fun F H => t243 hS (fun z => absurd (y.mp m) z) (fun _ => H 0))⟩)))
  obtain ⟨en, W, R, L, hx⟩ := y_mdx hr m
  have b := hx.2.2.2.2.2.2.2.2
  refine ⟨b, b, p_ans0 hn hr (fun M1 f1 h1 F H => t243 hS (fun _ => ?_) (fun z => absurd (y.mpr (by rw [← f1 11 0 22 (by unfold c_scr; omega)]; exact z)) m))⟩
  have e : M1 11 0 21 = M 2 0 10 := by rw [f1 11 0 21 (by unfold c_scr; omega)]; exact hx.2.2.2.2.2.2.2.1.symm
  have e2 : (if M1 11 0 21 = 0 then (0 : Int) else 1) = M 2 0 10 := by rw [e]; split <;> omega
  rw [e2]; exact H
/-! the end of a case -/
def l_st (n : Int) (h : qH) (σ : qS) : Prop := (∃ M, σ = (h, M) ∧ c_Rel n M) ∨ ∃ M, σ = qBump (h, M) 1 6 ∧ c_Rel n M
theorem l_cmp {x y : Int} (h : x = y) : (if x < y then (-1 : Int) else if x = y then 0 else 1) = 0 := by
  rw [if_neg (by omega), if_pos h]
abbrev l_ls (i : Int) (u5 u6 : qV) : List qV := [.inr (.inr (.inr true)), .inr (.inl (some (10, 0))), .inr (.inl (some (11, 0))), .inr (.inl (some (138, 0))), .inl i, u5, u6]
