/-! ===== the law's wrappers, by wip/p41/gen/genwrap.py ===== -/
def l_g (h : qH) (f : Int → qH → qM → Prop) (a b c : Bool) : Nat → qM → Prop := fun e M => (e = 0 ∧ a = true ∧ f (-7200) (lBh h) M) ∨ (e = 1 ∧ b = true ∧ f (-7300) (lBh h) M) ∨ (e = 2 ∧ c = true ∧ f (-7100) (lBh h) M)
theorem W152 {D : Nat} {h : qH} {x1 : Int} {x2 : Int} {M : qM} {f : Int → qH → qM → Prop} (H : e95 D h x1 x2 M (fun v M => f v h M) (l_g h f true false false)) : e152 (D + 1) h x1 x2 M f := by
  refine qJ.flat 40 rfl (And.intro rfl (qJ.imp H (fun r σ' hr => ?_)))
  rcases hr with ⟨v, M', rfl, rfl, hm⟩ | ⟨e, M', rfl, rfl, hm⟩
  · exact ⟨v, h, M', rfl, rfl, hm⟩
  · rcases hm with ⟨rfl, hk, hm⟩ | ⟨rfl, hk, hm⟩ | ⟨rfl, hk, hm⟩
    · exact ⟨-7200, lBh h, M', rfl, rfl, hm⟩
    · exact absurd hk (by decide)
    · exact absurd hk (by decide)
theorem W153 {D : Nat} {h : qH} {x1 : Int} {x2 : Int} {x3 : Int} {M : qM} {f : Int → qH → qM → Prop} (H : e97 D h x1 x2 x3 M (fun v M => f v h M) (l_g h f true true false)) : e153 (D + 1) h x1 x2 x3 M f := by
  refine qJ.flat 40 rfl (And.intro rfl (qJ.imp H (fun r σ' hr => ?_)))
  rcases hr with ⟨v, M', rfl, rfl, hm⟩ | ⟨e, M', rfl, rfl, hm⟩
  · exact ⟨v, h, M', rfl, rfl, hm⟩
  · rcases hm with ⟨rfl, hk, hm⟩ | ⟨rfl, hk, hm⟩ | ⟨rfl, hk, hm⟩
    · exact ⟨-7200, lBh h, M', rfl, rfl, hm⟩
    · exact ⟨-7300, lBh h, M', rfl, rfl, hm⟩
    · exact absurd hk (by decide)
theorem W154 {D : Nat} {h : qH} {x1 : Int} {M : qM} {f : Int → qH → qM → Prop} (H : e98 D h x1 M (fun v M => f v h M) (l_g h f true true false)) : e154 (D + 1) h x1 M f := by
  refine qJ.flat 40 rfl (And.intro rfl (qJ.imp H (fun r σ' hr => ?_)))
  rcases hr with ⟨v, M', rfl, rfl, hm⟩ | ⟨e, M', rfl, rfl, hm⟩
  · exact ⟨v, h, M', rfl, rfl, hm⟩
  · rcases hm with ⟨rfl, hk, hm⟩ | ⟨rfl, hk, hm⟩ | ⟨rfl, hk, hm⟩
    · exact ⟨-7200, lBh h, M', rfl, rfl, hm⟩
    · exact ⟨-7300, lBh h, M', rfl, rfl, hm⟩
    · exact absurd hk (by decide)
theorem W155 {D : Nat} {h : qH} {x1 : Int} {M : qM} {f : Int → qH → qM → Prop} (H : e100 D h x1 M (fun v M => f v h M) (l_g h f false true true)) : e155 (D + 1) h x1 M f := by
  refine qJ.flat 40 rfl (And.intro rfl (qJ.imp H (fun r σ' hr => ?_)))
  rcases hr with ⟨v, M', rfl, rfl, hm⟩ | ⟨e, M', rfl, rfl, hm⟩
  · exact ⟨v, h, M', rfl, rfl, hm⟩
  · rcases hm with ⟨rfl, hk, hm⟩ | ⟨rfl, hk, hm⟩ | ⟨rfl, hk, hm⟩
    · exact absurd hk (by decide)
    · exact ⟨-7300, lBh h, M', rfl, rfl, hm⟩
    · exact ⟨-7100, lBh h, M', rfl, rfl, hm⟩
theorem W156 {D : Nat} {h : qH} {x1 : Int} {x2 : Int} {x3 : Int} {M : qM} {f : Int → qH → qM → Prop} (H : e101 D h x1 x2 x3 M (fun v M => f v h M) (l_g h f true true true)) : e156 (D + 1) h x1 x2 x3 M f := by
  refine qJ.flat 40 rfl (And.intro rfl (qJ.imp H (fun r σ' hr => ?_)))
  rcases hr with ⟨v, M', rfl, rfl, hm⟩ | ⟨e, M', rfl, rfl, hm⟩
  · exact ⟨v, h, M', rfl, rfl, hm⟩
  · rcases hm with ⟨rfl, hk, hm⟩ | ⟨rfl, hk, hm⟩ | ⟨rfl, hk, hm⟩
    · exact ⟨-7200, lBh h, M', rfl, rfl, hm⟩
    · exact ⟨-7300, lBh h, M', rfl, rfl, hm⟩
    · exact ⟨-7100, lBh h, M', rfl, rfl, hm⟩
theorem W157 {D : Nat} {h : qH} {x1 : Int} {x2 : Int} {M : qM} {f : Int → qH → qM → Prop} (H : e102 D h x1 x2 M (fun v M => f v h M) (l_g h f false true true)) : e157 (D + 1) h x1 x2 M f := by
  refine qJ.flat 40 rfl (And.intro rfl (qJ.imp H (fun r σ' hr => ?_)))
  rcases hr with ⟨v, M', rfl, rfl, hm⟩ | ⟨e, M', rfl, rfl, hm⟩
  · exact ⟨v, h, M', rfl, rfl, hm⟩
  · rcases hm with ⟨rfl, hk, hm⟩ | ⟨rfl, hk, hm⟩ | ⟨rfl, hk, hm⟩
    · exact absurd hk (by decide)
    · exact ⟨-7300, lBh h, M', rfl, rfl, hm⟩
    · exact ⟨-7100, lBh h, M', rfl, rfl, hm⟩
theorem W158 {D : Nat} {h : qH} {x1 : Int} {x2 : Int} {M : qM} {f : Int → qH → qM → Prop} (H : e103 D h x1 x2 M (fun v M => f v h M) (l_g h f true false true)) : e158 (D + 1) h x1 x2 M f := by
  refine qJ.flat 40 rfl (And.intro rfl (qJ.imp H (fun r σ' hr => ?_)))
  rcases hr with ⟨v, M', rfl, rfl, hm⟩ | ⟨e, M', rfl, rfl, hm⟩
  · exact ⟨v, h, M', rfl, rfl, hm⟩
  · rcases hm with ⟨rfl, hk, hm⟩ | ⟨rfl, hk, hm⟩ | ⟨rfl, hk, hm⟩
    · exact ⟨-7200, lBh h, M', rfl, rfl, hm⟩
    · exact absurd hk (by decide)
    · exact ⟨-7100, lBh h, M', rfl, rfl, hm⟩
theorem W159 {D : Nat} {h : qH} {x1 : Int} {M : qM} {f : Int → qH → qM → Prop} (H : e104 D h x1 M (fun v M => f v h M) (l_g h f false true false)) : e159 (D + 1) h x1 M f := by
  refine qJ.flat 40 rfl (And.intro rfl (qJ.imp H (fun r σ' hr => ?_)))
  rcases hr with ⟨v, M', rfl, rfl, hm⟩ | ⟨e, M', rfl, rfl, hm⟩
  · exact ⟨v, h, M', rfl, rfl, hm⟩
  · rcases hm with ⟨rfl, hk, hm⟩ | ⟨rfl, hk, hm⟩ | ⟨rfl, hk, hm⟩
    · exact absurd hk (by decide)
    · exact ⟨-7300, lBh h, M', rfl, rfl, hm⟩
    · exact absurd hk (by decide)
theorem W160 {D : Nat} {h : qH}  {M : qM} {f : Int → qH → qM → Prop} (H : e105 D h  M (fun v M => f v h M) (l_g h f false true false)) : e160 (D + 1) h  M f := by
  refine qJ.flat 40 rfl (And.intro rfl (qJ.imp H (fun r σ' hr => ?_)))
  rcases hr with ⟨v, M', rfl, rfl, hm⟩ | ⟨e, M', rfl, rfl, hm⟩
  · exact ⟨v, h, M', rfl, rfl, hm⟩
  · rcases hm with ⟨rfl, hk, hm⟩ | ⟨rfl, hk, hm⟩ | ⟨rfl, hk, hm⟩
    · exact absurd hk (by decide)
    · exact ⟨-7300, lBh h, M', rfl, rfl, hm⟩
    · exact absurd hk (by decide)
theorem W161 {D : Nat} {h : qH} {x1 : Int} {M : qM} {f : Int → qH → qM → Prop} (H : e107 D h x1 M (fun v M => f v h M) (l_g h f false false true)) : e161 (D + 1) h x1 M f := by
  refine qJ.flat 40 rfl (And.intro rfl (qJ.imp H (fun r σ' hr => ?_)))
  rcases hr with ⟨v, M', rfl, rfl, hm⟩ | ⟨e, M', rfl, rfl, hm⟩
  · exact ⟨v, h, M', rfl, rfl, hm⟩
  · rcases hm with ⟨rfl, hk, hm⟩ | ⟨rfl, hk, hm⟩ | ⟨rfl, hk, hm⟩
    · exact absurd hk (by decide)
    · exact absurd hk (by decide)
    · exact ⟨-7100, lBh h, M', rfl, rfl, hm⟩
theorem W162 {D : Nat} {h : qH} {x1 : Int} {x2 : Int} {M : qM} {f : Int → qH → qM → Prop} (H : e108 D h x1 x2 M (fun v M => f v h M) (l_g h f false false true)) : e162 (D + 1) h x1 x2 M f := by
  refine qJ.flat 40 rfl (And.intro rfl (qJ.imp H (fun r σ' hr => ?_)))
  rcases hr with ⟨v, M', rfl, rfl, hm⟩ | ⟨e, M', rfl, rfl, hm⟩
  · exact ⟨v, h, M', rfl, rfl, hm⟩
  · rcases hm with ⟨rfl, hk, hm⟩ | ⟨rfl, hk, hm⟩ | ⟨rfl, hk, hm⟩
    · exact absurd hk (by decide)
    · exact absurd hk (by decide)
    · exact ⟨-7100, lBh h, M', rfl, rfl, hm⟩
theorem W163 {D : Nat} {h : qH} {x1 : Int} {x2 : Int} {x3 : Int} {M : qM} {f : Int → qH → qM → Prop} (H : e109 D h x1 x2 x3 M (fun v M => f v h M) (l_g h f false true true)) : e163 (D + 1) h x1 x2 x3 M f := by
  refine qJ.flat 40 rfl (And.intro rfl (qJ.imp H (fun r σ' hr => ?_)))
  rcases hr with ⟨v, M', rfl, rfl, hm⟩ | ⟨e, M', rfl, rfl, hm⟩
  · exact ⟨v, h, M', rfl, rfl, hm⟩
  · rcases hm with ⟨rfl, hk, hm⟩ | ⟨rfl, hk, hm⟩ | ⟨rfl, hk, hm⟩
    · exact absurd hk (by decide)
    · exact ⟨-7300, lBh h, M', rfl, rfl, hm⟩
    · exact ⟨-7100, lBh h, M', rfl, rfl, hm⟩
theorem W164 {D : Nat} {h : qH} {x1 : Int} {x2 : Int} {M : qM} {f : Int → qH → qM → Prop} (H : e110 D h x1 x2 M (fun v M => f v h M) (l_g h f false true true)) : e164 (D + 1) h x1 x2 M f := by
  refine qJ.flat 40 rfl (And.intro rfl (qJ.imp H (fun r σ' hr => ?_)))
  rcases hr with ⟨v, M', rfl, rfl, hm⟩ | ⟨e, M', rfl, rfl, hm⟩
  · exact ⟨v, h, M', rfl, rfl, hm⟩
  · rcases hm with ⟨rfl, hk, hm⟩ | ⟨rfl, hk, hm⟩ | ⟨rfl, hk, hm⟩
    · exact absurd hk (by decide)
    · exact ⟨-7300, lBh h, M', rfl, rfl, hm⟩
    · exact ⟨-7100, lBh h, M', rfl, rfl, hm⟩
theorem W165 {D : Nat} {h : qH} {x1 : Int} {x2 : Int} {x3 : Int} {M : qM} {f : Int → qH → qM → Prop} (H : e111 D h x1 x2 x3 M (fun v M => f v h M) (l_g h f false true true)) : e165 (D + 1) h x1 x2 x3 M f := by
  refine qJ.flat 40 rfl (And.intro rfl (qJ.imp H (fun r σ' hr => ?_)))
  rcases hr with ⟨v, M', rfl, rfl, hm⟩ | ⟨e, M', rfl, rfl, hm⟩
  · exact ⟨v, h, M', rfl, rfl, hm⟩
  · rcases hm with ⟨rfl, hk, hm⟩ | ⟨rfl, hk, hm⟩ | ⟨rfl, hk, hm⟩
    · exact absurd hk (by decide)
    · exact ⟨-7300, lBh h, M', rfl, rfl, hm⟩
    · exact ⟨-7100, lBh h, M', rfl, rfl, hm⟩
theorem W166 {D : Nat} {h : qH} {x1 : Int} {x2 : Int} {M : qM} {f : Int → qH → qM → Prop} (H : e112 D h x1 x2 M (fun v M => f v h M) (l_g h f false true true)) : e166 (D + 1) h x1 x2 M f := by
  refine qJ.flat 40 rfl (And.intro rfl (qJ.imp H (fun r σ' hr => ?_)))
  rcases hr with ⟨v, M', rfl, rfl, hm⟩ | ⟨e, M', rfl, rfl, hm⟩
  · exact ⟨v, h, M', rfl, rfl, hm⟩
  · rcases hm with ⟨rfl, hk, hm⟩ | ⟨rfl, hk, hm⟩ | ⟨rfl, hk, hm⟩
    · exact absurd hk (by decide)
    · exact ⟨-7300, lBh h, M', rfl, rfl, hm⟩
    · exact ⟨-7100, lBh h, M', rfl, rfl, hm⟩
theorem W167 {D : Nat} {h : qH} {x1 : Int} {M : qM} {f : Int → qH → qM → Prop} (H : e113 D h x1 M (fun v M => f v h M) (l_g h f false true true)) : e167 (D + 1) h x1 M f := by
  refine qJ.flat 40 rfl (And.intro rfl (qJ.imp H (fun r σ' hr => ?_)))
  rcases hr with ⟨v, M', rfl, rfl, hm⟩ | ⟨e, M', rfl, rfl, hm⟩
  · exact ⟨v, h, M', rfl, rfl, hm⟩
  · rcases hm with ⟨rfl, hk, hm⟩ | ⟨rfl, hk, hm⟩ | ⟨rfl, hk, hm⟩
    · exact absurd hk (by decide)
    · exact ⟨-7300, lBh h, M', rfl, rfl, hm⟩
    · exact ⟨-7100, lBh h, M', rfl, rfl, hm⟩
theorem W168 {D : Nat} {h : qH}  {M : qM} {f : Int → qH → qM → Prop} (H : e114 D h  M (fun v M => f v h M) (l_g h f false true false)) : e168 (D + 1) h  M f := by
  refine qJ.flat 40 rfl (And.intro rfl (qJ.imp H (fun r σ' hr => ?_)))
  rcases hr with ⟨v, M', rfl, rfl, hm⟩ | ⟨e, M', rfl, rfl, hm⟩
  · exact ⟨v, h, M', rfl, rfl, hm⟩
  · rcases hm with ⟨rfl, hk, hm⟩ | ⟨rfl, hk, hm⟩ | ⟨rfl, hk, hm⟩
    · exact absurd hk (by decide)
    · exact ⟨-7300, lBh h, M', rfl, rfl, hm⟩
    · exact absurd hk (by decide)
theorem W169 {D : Nat} {h : qH}  {M : qM} {f : Int → qH → qM → Prop} (H : e115 D h  M (fun v M => f v h M) (l_g h f false true false)) : e169 (D + 1) h  M f := by
  refine qJ.flat 40 rfl (And.intro rfl (qJ.imp H (fun r σ' hr => ?_)))
  rcases hr with ⟨v, M', rfl, rfl, hm⟩ | ⟨e, M', rfl, rfl, hm⟩
  · exact ⟨v, h, M', rfl, rfl, hm⟩
  · rcases hm with ⟨rfl, hk, hm⟩ | ⟨rfl, hk, hm⟩ | ⟨rfl, hk, hm⟩
    · exact absurd hk (by decide)
    · exact ⟨-7300, lBh h, M', rfl, rfl, hm⟩
    · exact absurd hk (by decide)
theorem W170 {D : Nat} {h : qH} {x1 : Int} {M : qM} {f : Int → qH → qM → Prop} (H : e116 D h x1 M (fun v M => f v h M) (l_g h f false true true)) : e170 (D + 1) h x1 M f := by
  refine qJ.flat 40 rfl (And.intro rfl (qJ.imp H (fun r σ' hr => ?_)))
  rcases hr with ⟨v, M', rfl, rfl, hm⟩ | ⟨e, M', rfl, rfl, hm⟩
  · exact ⟨v, h, M', rfl, rfl, hm⟩
  · rcases hm with ⟨rfl, hk, hm⟩ | ⟨rfl, hk, hm⟩ | ⟨rfl, hk, hm⟩
    · exact absurd hk (by decide)
    · exact ⟨-7300, lBh h, M', rfl, rfl, hm⟩
    · exact ⟨-7100, lBh h, M', rfl, rfl, hm⟩
theorem W171 {D : Nat} {h : qH} {x1 : Int} {x2 : Int} {M : qM} {f : Int → qH → qM → Prop} (H : e117 D h x1 x2 M (fun v M => f v h M) (l_g h f false true true)) : e171 (D + 1) h x1 x2 M f := by
  refine qJ.flat 40 rfl (And.intro rfl (qJ.imp H (fun r σ' hr => ?_)))
  rcases hr with ⟨v, M', rfl, rfl, hm⟩ | ⟨e, M', rfl, rfl, hm⟩
  · exact ⟨v, h, M', rfl, rfl, hm⟩
  · rcases hm with ⟨rfl, hk, hm⟩ | ⟨rfl, hk, hm⟩ | ⟨rfl, hk, hm⟩
    · exact absurd hk (by decide)
    · exact ⟨-7300, lBh h, M', rfl, rfl, hm⟩
    · exact ⟨-7100, lBh h, M', rfl, rfl, hm⟩
theorem W172 {D : Nat} {h : qH} {x1 : Int} {x2 : Int} {M : qM} {f : Int → qH → qM → Prop} (H : e118 D h x1 x2 M (fun v M => f v h M) (l_g h f false true true)) : e172 (D + 1) h x1 x2 M f := by
  refine qJ.flat 40 rfl (And.intro rfl (qJ.imp H (fun r σ' hr => ?_)))
  rcases hr with ⟨v, M', rfl, rfl, hm⟩ | ⟨e, M', rfl, rfl, hm⟩
  · exact ⟨v, h, M', rfl, rfl, hm⟩
  · rcases hm with ⟨rfl, hk, hm⟩ | ⟨rfl, hk, hm⟩ | ⟨rfl, hk, hm⟩
    · exact absurd hk (by decide)
    · exact ⟨-7300, lBh h, M', rfl, rfl, hm⟩
    · exact ⟨-7100, lBh h, M', rfl, rfl, hm⟩
theorem W173 {D : Nat} {h : qH} {x1 : Int} {x2 : Int} {M : qM} {f : Int → qH → qM → Prop} (H : e119 D h x1 x2 M (fun v M => f v h M) (l_g h f true true true)) : e173 (D + 1) h x1 x2 M f := by
  refine qJ.flat 40 rfl (And.intro rfl (qJ.imp H (fun r σ' hr => ?_)))
  rcases hr with ⟨v, M', rfl, rfl, hm⟩ | ⟨e, M', rfl, rfl, hm⟩
  · exact ⟨v, h, M', rfl, rfl, hm⟩
  · rcases hm with ⟨rfl, hk, hm⟩ | ⟨rfl, hk, hm⟩ | ⟨rfl, hk, hm⟩
    · exact ⟨-7200, lBh h, M', rfl, rfl, hm⟩
    · exact ⟨-7300, lBh h, M', rfl, rfl, hm⟩
    · exact ⟨-7100, lBh h, M', rfl, rfl, hm⟩
theorem W174 {D : Nat} {h : qH} {x1 : Int} {M : qM} {f : Int → qH → qM → Prop} (H : e120 D h x1 M (fun v M => f v h M) (l_g h f false true true)) : e174 (D + 1) h x1 M f := by
  refine qJ.flat 40 rfl (And.intro rfl (qJ.imp H (fun r σ' hr => ?_)))
  rcases hr with ⟨v, M', rfl, rfl, hm⟩ | ⟨e, M', rfl, rfl, hm⟩
  · exact ⟨v, h, M', rfl, rfl, hm⟩
  · rcases hm with ⟨rfl, hk, hm⟩ | ⟨rfl, hk, hm⟩ | ⟨rfl, hk, hm⟩
    · exact absurd hk (by decide)
    · exact ⟨-7300, lBh h, M', rfl, rfl, hm⟩
    · exact ⟨-7100, lBh h, M', rfl, rfl, hm⟩
theorem W175 {D : Nat} {h : qH} {x1 : Int} {M : qM} {f : Int → qH → qM → Prop} (H : e121 D h x1 M (fun v M => f v h M) (l_g h f false true true)) : e175 (D + 1) h x1 M f := by
  refine qJ.flat 40 rfl (And.intro rfl (qJ.imp H (fun r σ' hr => ?_)))
  rcases hr with ⟨v, M', rfl, rfl, hm⟩ | ⟨e, M', rfl, rfl, hm⟩
  · exact ⟨v, h, M', rfl, rfl, hm⟩
  · rcases hm with ⟨rfl, hk, hm⟩ | ⟨rfl, hk, hm⟩ | ⟨rfl, hk, hm⟩
    · exact absurd hk (by decide)
    · exact ⟨-7300, lBh h, M', rfl, rfl, hm⟩
    · exact ⟨-7100, lBh h, M', rfl, rfl, hm⟩
theorem W176 {D : Nat} {h : qH}  {M : qM} {f : Int → qH → qM → Prop} (H : e122 D h  M (fun v M => (v = 0 → f 0 h M) ∧ (¬ v = 0 → f 1 h M)) (l_g h f false true false)) : e176 (D + 1) h  M f := by
  refine qJ.flat 40 rfl (And.intro rfl (qJ.imp H (fun r σ' hr => ?_)))
  rcases hr with ⟨v, M', rfl, rfl, hm⟩ | ⟨e, M', rfl, rfl, hm⟩
  · exact And.intro (fun z => ⟨0, h, M', rfl, rfl, hm.1 z⟩) (fun z => ⟨1, h, M', rfl, rfl, hm.2 z⟩)
  · rcases hm with ⟨rfl, hk, hm⟩ | ⟨rfl, hk, hm⟩ | ⟨rfl, hk, hm⟩
    · exact absurd hk (by decide)
    · exact ⟨-7300, lBh h, M', rfl, rfl, hm⟩
    · exact absurd hk (by decide)
theorem W177 {D : Nat} {h : qH} {x1 : Int} {x2 : Int} {x3 : Int} {M : qM} {f : Int → qH → qM → Prop} (H : e123 D h x1 x2 x3 M (fun v M => f v h M) (l_g h f false true true)) : e177 (D + 1) h x1 x2 x3 M f := by
  refine qJ.flat 40 rfl (And.intro rfl (qJ.imp H (fun r σ' hr => ?_)))
  rcases hr with ⟨v, M', rfl, rfl, hm⟩ | ⟨e, M', rfl, rfl, hm⟩
  · exact ⟨v, h, M', rfl, rfl, hm⟩
  · rcases hm with ⟨rfl, hk, hm⟩ | ⟨rfl, hk, hm⟩ | ⟨rfl, hk, hm⟩
    · exact absurd hk (by decide)
    · exact ⟨-7300, lBh h, M', rfl, rfl, hm⟩
    · exact ⟨-7100, lBh h, M', rfl, rfl, hm⟩
theorem W178 {D : Nat} {h : qH} {x1 : Int} {x2 : Int} {x3 : Int} {M : qM} {f : Int → qH → qM → Prop} (H : e124 D h x1 x2 x3 M (fun v M => f v h M) (l_g h f false true true)) : e178 (D + 1) h x1 x2 x3 M f := by
  refine qJ.flat 40 rfl (And.intro rfl (qJ.imp H (fun r σ' hr => ?_)))
  rcases hr with ⟨v, M', rfl, rfl, hm⟩ | ⟨e, M', rfl, rfl, hm⟩
  · exact ⟨v, h, M', rfl, rfl, hm⟩
  · rcases hm with ⟨rfl, hk, hm⟩ | ⟨rfl, hk, hm⟩ | ⟨rfl, hk, hm⟩
    · exact absurd hk (by decide)
    · exact ⟨-7300, lBh h, M', rfl, rfl, hm⟩
    · exact ⟨-7100, lBh h, M', rfl, rfl, hm⟩
theorem W179 {D : Nat} {h : qH} {x1 : Int} {x2 : Int} {M : qM} {f : Int → qH → qM → Prop} (H : e125 D h x1 x2 M (fun v M => f v h M) (l_g h f false true true)) : e179 (D + 1) h x1 x2 M f := by
  refine qJ.flat 40 rfl (And.intro rfl (qJ.imp H (fun r σ' hr => ?_)))
  rcases hr with ⟨v, M', rfl, rfl, hm⟩ | ⟨e, M', rfl, rfl, hm⟩
  · exact ⟨v, h, M', rfl, rfl, hm⟩
  · rcases hm with ⟨rfl, hk, hm⟩ | ⟨rfl, hk, hm⟩ | ⟨rfl, hk, hm⟩
    · exact absurd hk (by decide)
    · exact ⟨-7300, lBh h, M', rfl, rfl, hm⟩
    · exact ⟨-7100, lBh h, M', rfl, rfl, hm⟩
theorem W180 {D : Nat} {h : qH} {x1 : Int} {x2 : Int} {x3 : Int} {M : qM} {f : Int → qH → qM → Prop} (H : e126 D h x1 x2 x3 M (fun v M => f v h M) (l_g h f false true true)) : e180 (D + 1) h x1 x2 x3 M f := by
  refine qJ.flat 40 rfl (And.intro rfl (qJ.imp H (fun r σ' hr => ?_)))
  rcases hr with ⟨v, M', rfl, rfl, hm⟩ | ⟨e, M', rfl, rfl, hm⟩
  · exact ⟨v, h, M', rfl, rfl, hm⟩
  · rcases hm with ⟨rfl, hk, hm⟩ | ⟨rfl, hk, hm⟩ | ⟨rfl, hk, hm⟩
    · exact absurd hk (by decide)
    · exact ⟨-7300, lBh h, M', rfl, rfl, hm⟩
    · exact ⟨-7100, lBh h, M', rfl, rfl, hm⟩
theorem W181 {D : Nat} {h : qH} {x1 : Int} {M : qM} {f : Int → qH → qM → Prop} (H : e127 D h x1 M (fun v M => f v h M) (l_g h f false true true)) : e181 (D + 1) h x1 M f := by
  refine qJ.flat 40 rfl (And.intro rfl (qJ.imp H (fun r σ' hr => ?_)))
  rcases hr with ⟨v, M', rfl, rfl, hm⟩ | ⟨e, M', rfl, rfl, hm⟩
  · exact ⟨v, h, M', rfl, rfl, hm⟩
  · rcases hm with ⟨rfl, hk, hm⟩ | ⟨rfl, hk, hm⟩ | ⟨rfl, hk, hm⟩
    · exact absurd hk (by decide)
    · exact ⟨-7300, lBh h, M', rfl, rfl, hm⟩
    · exact ⟨-7100, lBh h, M', rfl, rfl, hm⟩
theorem W182 {D : Nat} {h : qH} {x1 : Int} {x2 : Int} {x3 : Int} {M : qM} {f : Int → qH → qM → Prop} (H : e128 D h x1 x2 x3 M (fun v M => f v h M) (l_g h f true true true)) : e182 (D + 1) h x1 x2 x3 M f := by
  refine qJ.flat 40 rfl (And.intro rfl (qJ.imp H (fun r σ' hr => ?_)))
  rcases hr with ⟨v, M', rfl, rfl, hm⟩ | ⟨e, M', rfl, rfl, hm⟩
  · exact ⟨v, h, M', rfl, rfl, hm⟩
  · rcases hm with ⟨rfl, hk, hm⟩ | ⟨rfl, hk, hm⟩ | ⟨rfl, hk, hm⟩
    · exact ⟨-7200, lBh h, M', rfl, rfl, hm⟩
    · exact ⟨-7300, lBh h, M', rfl, rfl, hm⟩
    · exact ⟨-7100, lBh h, M', rfl, rfl, hm⟩
theorem W183 {D : Nat} {h : qH}  {M : qM} {f : Int → qH → qM → Prop} (H : e129 D h  M (fun v M => f v h M) (l_g h f false true false)) : e183 (D + 1) h  M f := by
  refine qJ.flat 40 rfl (And.intro rfl (qJ.imp H (fun r σ' hr => ?_)))
  rcases hr with ⟨v, M', rfl, rfl, hm⟩ | ⟨e, M', rfl, rfl, hm⟩
  · exact ⟨v, h, M', rfl, rfl, hm⟩
  · rcases hm with ⟨rfl, hk, hm⟩ | ⟨rfl, hk, hm⟩ | ⟨rfl, hk, hm⟩
    · exact absurd hk (by decide)
    · exact ⟨-7300, lBh h, M', rfl, rfl, hm⟩
    · exact absurd hk (by decide)
theorem W184 {D : Nat} {h : qH} {x1 : Int} {M : qM} {f : Int → qH → qM → Prop} (H : e130 D h x1 M (fun v M => f v h M) (l_g h f true true false)) : e184 (D + 1) h x1 M f := by
  refine qJ.flat 40 rfl (And.intro rfl (qJ.imp H (fun r σ' hr => ?_)))
  rcases hr with ⟨v, M', rfl, rfl, hm⟩ | ⟨e, M', rfl, rfl, hm⟩
  · exact ⟨v, h, M', rfl, rfl, hm⟩
  · rcases hm with ⟨rfl, hk, hm⟩ | ⟨rfl, hk, hm⟩ | ⟨rfl, hk, hm⟩
    · exact ⟨-7200, lBh h, M', rfl, rfl, hm⟩
    · exact ⟨-7300, lBh h, M', rfl, rfl, hm⟩
    · exact absurd hk (by decide)
theorem W185 {D : Nat} {h : qH}  {M : qM} {f : Int → qH → qM → Prop} (H : e131 D h  M (fun v M => f v h M) (l_g h f false true false)) : e185 (D + 1) h  M f := by
  refine qJ.flat 40 rfl (And.intro rfl (qJ.imp H (fun r σ' hr => ?_)))
  rcases hr with ⟨v, M', rfl, rfl, hm⟩ | ⟨e, M', rfl, rfl, hm⟩
  · exact ⟨v, h, M', rfl, rfl, hm⟩
  · rcases hm with ⟨rfl, hk, hm⟩ | ⟨rfl, hk, hm⟩ | ⟨rfl, hk, hm⟩
    · exact absurd hk (by decide)
    · exact ⟨-7300, lBh h, M', rfl, rfl, hm⟩
    · exact absurd hk (by decide)
theorem W186 {D : Nat} {h : qH}  {M : qM} {f : Int → qH → qM → Prop} (H : e132 D h  M (fun v M => f v h M) (l_g h f false true false)) : e186 (D + 1) h  M f := by
  refine qJ.flat 40 rfl (And.intro rfl (qJ.imp H (fun r σ' hr => ?_)))
  rcases hr with ⟨v, M', rfl, rfl, hm⟩ | ⟨e, M', rfl, rfl, hm⟩
  · exact ⟨v, h, M', rfl, rfl, hm⟩
  · rcases hm with ⟨rfl, hk, hm⟩ | ⟨rfl, hk, hm⟩ | ⟨rfl, hk, hm⟩
    · exact absurd hk (by decide)
    · exact ⟨-7300, lBh h, M', rfl, rfl, hm⟩
    · exact absurd hk (by decide)
