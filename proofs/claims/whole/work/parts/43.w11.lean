/-! ===== from cut to cut, by wip/gen/genw.py: methods 186 to 205 ===== -/
theorem w186_9 {d : Nat} {h : qH} (hS : qSe h) {f : Int → qM → Prop} {x1 : Int} {u2 : qV} {u3 : qV} {x4 : Int} {x5 : Int} {x6 : Int} {x7 : Int} {u8 : qV} {u9 : qV} {u10 : qV} {M : qM} (H :
    ((0 ≤ x1 ∧ x1 < 3) ∧ ((x6 < (M 94 0 x1) →
    b186_42 d h f x1 (u2) (u3) x4 x5 x6 x7 x6 x7 0 M) ∧
    (¬ (x6 < (M 94 0 x1)) →
    ((0 ≤ x1 ∧ x1 < 3) ∧ ((x7 < (M 96 0 x1) →
      b186_42 d h f x1 (u2) (u3) x4 x5 x6 x7 x6 x7 0 M) ∧
      (¬ (x7 < (M 96 0 x1)) →
      f x5 M))))))) : b186_9 d h f x1 u2 u3 x4 x5 x6 x7 u8 u9 u10 M :=
  qWq (fun pc => Nat.beq pc 9 || Nat.beq pc 42 || Nat.beq pc 90) 300 (And.intro (hS.1 _ _ _ rfl) (qAn H (fun a101 h102 => And.intro a101 (qAn h102 (fun h103 h104 => And.intro (fun hc105 => (h103 hc105)) (fun hc105 => (And.intro (hS.1 _ _ _ rfl) (qAn (h104 hc105) (fun a106 h107 => And.intro a106 (qAn h107 (fun h108 h109 => And.intro (fun hc110 => (h108 hc110)) (fun hc110 => ⟨x5, M, rfl, rfl, (h109 hc110)⟩))))))))))))
theorem w186_42 {d : Nat} {h : qH} (hS : qSe h) {f : Int → qM → Prop} {x1 : Int} {u2 : qV} {u3 : qV} {x4 : Int} {x5 : Int} {x6 : Int} {x7 : Int} {x8 : Int} {x9 : Int} {x10 : Int} {M : qM} (H :
    ((0 ≤ x1 ∧ x1 < 3) ∧ ((x6 < (M 94 0 x1) →
    e182 (d + 1) h x1 x6 1 M (fun v106 M107 => 
      (qIn (x10 + v106) ∧ (((x10 + v106) ≤ (M107 11 0 2) →
      e182 (d + 1) h x1 x6 1 M107 (fun v114 M115 => 
        (qIn (x10 + v114) ∧ (qIn (x6 + 1) ∧ b186_42 d h f x1 (u2) (u3) x4 x5 (x6 + 1) x7 x8 x9 (x10 + v114) M115)))) ∧
      (¬ ((x10 + v106) ≤ (M107 11 0 2)) →
      b186_90 d h f x1 (u2) (u3) x4 x5 x6 x7 x8 x9 x10 M107))))) ∧
    (¬ (x6 < (M 94 0 x1)) →
    b186_90 d h f x1 (u2) (u3) x4 x5 x6 x7 x8 x9 x10 M)))) : b186_42 d h f x1 u2 u3 x4 x5 x6 x7 x8 x9 x10 M :=
  qWq (fun pc => Nat.beq pc 9 || Nat.beq pc 42 || Nat.beq pc 90) 300 (And.intro (hS.1 _ _ _ rfl) (qAn H (fun a101 h102 => And.intro a101 (qAn h102 (fun h103 h104 => And.intro (fun hc105 => (And.intro rfl (qEi.go (h103 hc105) (qLq d rfl) (fun v106 M107 h108 => (qAn h108 (fun a109 h110 => And.intro a109 (qAn h110 (fun h111 h112 => And.intro (fun hc113 => (And.intro rfl (qEi.go (h111 hc113) (qLq d rfl) (fun v114 M115 h116 => (qAn h116 (fun a117 h118 => And.intro a117 (qAn h118 (fun a119 h120 => And.intro a119 h120)))))))) (fun hc113 => (h112 hc113)))))))))) (fun hc105 => (h104 hc105)))))))
theorem w186_90 {d : Nat} {h : qH} (hS : qSe h) {f : Int → qM → Prop} {x1 : Int} {u2 : qV} {u3 : qV} {x4 : Int} {x5 : Int} {x6 : Int} {x7 : Int} {x8 : Int} {x9 : Int} {x10 : Int} {M : qM} (H :
    (qIn ((M 11 0 2) - x10) ∧ ((((M 11 0 2) - x10) < 2 →
    (qIn (x7 + 0) ∧ ((¬ ((x7 + 0) ≤ x9) → (qIn ((x7 + 0) - x9) ∧ qIn (((x7 + 0) - x9) + 1))) ∧
      (∀ x108 : Int, x108 = (if (x7 + 0) ≤ x9 then 0 else (((x7 + 0) - x9) + 1)) → (qIn (x10 + x108) ∧ (qIn (x5 + 1) ∧ ((x4 = 0 →
      b186_9 d h f x1 (u2) (u3) x4 (x5 + 1) x6 (x7 + 0) (.inl x8) (.inl x9) (.inl (x10 + x108)) M) ∧
      (¬ (x4 = 0) →
      ((0 ≤ x1 ∧ x1 < 3) ∧ (qIn (x6 - x8) ∧ (qIn ((x7 + 0) - x9) ∧ e195 (d + 1) h x1 (M 87 0 x1) 0 x8 (x6 - x8) x9 ((x7 + 0) - x9) 0 (x10 + x108) M (fun M124 => 
        b186_9 d h f x1 (u2) (u3) x4 (x5 + 1) x6 (x7 + 0) (.inl x8) (.inl x9) (.inl (x10 + x108)) M124)))))))))))) ∧
    (¬ (((M 11 0 2) - x10) < 2) →
    ((0 ≤ x1 ∧ x1 < 3) ∧ (qIn ((M 96 0 x1) - x7) ∧ (qIn ((M 11 0 2) - x10) ∧ (qIn (((M 11 0 2) - x10) - 1) ∧ e153 (d + 1) h ((M 96 0 x1) - x7) (((M 11 0 2) - x10) - 1) M (fun v138 M139 => 
      (qIn (x7 + v138) ∧ ((¬ ((x7 + v138) ≤ x9) → (qIn ((x7 + v138) - x9) ∧ qIn (((x7 + v138) - x9) + 1))) ∧
      (∀ x143 : Int, x143 = (if (x7 + v138) ≤ x9 then 0 else (((x7 + v138) - x9) + 1)) → (qIn (x10 + x143) ∧ (qIn (x5 + 1) ∧ ((x4 = 0 →
      b186_9 d h f x1 (u2) (u3) x4 (x5 + 1) x6 (x7 + v138) (.inl x8) (.inl x9) (.inl (x10 + x143)) M139) ∧
      (¬ (x4 = 0) →
      ((0 ≤ x1 ∧ x1 < 3) ∧ (qIn (x6 - x8) ∧ (qIn ((x7 + v138) - x9) ∧ e195 (d + 1) h x1 (M139 87 0 x1) 0 x8 (x6 - x8) x9 ((x7 + v138) - x9) 0 (x10 + x143) M139 (fun M159 => 
        b186_9 d h f x1 (u2) (u3) x4 (x5 + 1) x6 (x7 + v138) (.inl x8) (.inl x9) (.inl (x10 + x143)) M159)))))))))))))))))))) : b186_90 d h f x1 u2 u3 x4 x5 x6 x7 x8 x9 x10 M :=
  qWq (fun pc => Nat.beq pc 9 || Nat.beq pc 42 || Nat.beq pc 90 || Nat.beq pc 151) 300 (qAn H (fun a101 h102 => And.intro a101 (qAn h102 (fun h103 h104 => And.intro (fun hc105 => (qAn (h103 hc105) (fun a106 h107 => And.intro a106 (qAn h107 (fun h127 h128 => (have k126 : ∀ (x108 : Int), (qIn (x10 + x108) ∧ (qIn (x5 + 1) ∧ ((x4 = 0 → b186_9 d h f x1 (u2) (u3) x4 (x5 + 1) x6 (x7 + 0) (.inl x8) (.inl x9) (.inl (x10 + x108)) M) ∧ (¬ (x4 = 0) → ((0 ≤ x1 ∧ x1 < 3) ∧ (qIn (x6 - x8) ∧ (qIn ((x7 + 0) - x9) ∧ e195 (d + 1) h x1 (M 87 0 x1) 0 x8 (x6 - x8) x9 ((x7 + 0) - x9) 0 (x10 + x108) M (fun M124 =>  b186_9 d h f x1 (u2) (u3) x4 (x5 + 1) x6 (x7 + 0) (.inl x8) (.inl x9) (.inl (x10 + x108)) M124)))))))) → qG (d + 1) (-1, fun _ => 0) (qP 186) (qRi h f) 151 [.inr (.inl (some (11, 0))), .inl x1, u2, u3, .inl x4, .inl x5, .inl x6, .inl (x7 + 0), .inl x8, .inl x9, .inl x10] [.inl x108, .inl x10] (h, M) := fun x108 h109 => qWq (fun pc => Nat.beq pc 9 || Nat.beq pc 42 || Nat.beq pc 90 || Nat.beq pc 151) 300 (qAn h109 (fun a110 h111 => And.intro a110 (qAn h111 (fun a112 h113 => And.intro a112 (qAn h113 (fun h114 h115 => And.intro (fun hc116 => (h114 hc116)) (fun hc116 => (And.intro (hS.1 _ _ _ rfl) (qAn (h115 hc116) (fun a117 h118 => And.intro a117 (qAn h118 (fun a119 h120 => And.intro a119 (qAn h120 (fun a121 h122 => And.intro a121 (And.intro rfl (qEv.go h122 (qLq d rfl) (fun M124 h125 => h125))))))))))))))))); (And.intro (fun hc129 => (k126 0 (h128 0 (if_pos hc129).symm))) (fun hc129 => (And.intro (h127 hc129).1 (And.intro (h127 hc129).2 (k126 (((x7 + 0) - x9) + 1) (h128 (((x7 + 0) - x9) + 1) (if_neg hc129).symm)))))))))))) (fun hc105 => (And.intro (hS.1 _ _ _ rfl) (qAn (h104 hc105) (fun a130 h131 => And.intro a130 (qAn h131 (fun a132 h133 => And.intro a132 (qAn h133 (fun a134 h135 => And.intro a134 (qAn h135 (fun a136 h137 => And.intro a136 (And.intro rfl (qEi.go h137 (qLq d rfl) (fun v138 M139 h140 => (qAn h140 (fun a141 h142 => And.intro a141 (qAn h142 (fun h162 h163 => (have k161 : ∀ (x143 : Int), (qIn (x10 + x143) ∧ (qIn (x5 + 1) ∧ ((x4 = 0 → b186_9 d h f x1 (u2) (u3) x4 (x5 + 1) x6 (x7 + v138) (.inl x8) (.inl x9) (.inl (x10 + x143)) M139) ∧ (¬ (x4 = 0) → ((0 ≤ x1 ∧ x1 < 3) ∧ (qIn (x6 - x8) ∧ (qIn ((x7 + v138) - x9) ∧ e195 (d + 1) h x1 (M139 87 0 x1) 0 x8 (x6 - x8) x9 ((x7 + v138) - x9) 0 (x10 + x143) M139 (fun M159 =>  b186_9 d h f x1 (u2) (u3) x4 (x5 + 1) x6 (x7 + v138) (.inl x8) (.inl x9) (.inl (x10 + x143)) M159)))))))) → qG (d + 1) (-1, fun _ => 0) (qP 186) (qRi h f) 151 [.inr (.inl (some (11, 0))), .inl x1, u2, u3, .inl x4, .inl x5, .inl x6, .inl (x7 + v138), .inl x8, .inl x9, .inl x10] [.inl x143, .inl x10] (h, M139) := fun x143 h144 => qWq (fun pc => Nat.beq pc 9 || Nat.beq pc 42 || Nat.beq pc 90 || Nat.beq pc 151) 300 (qAn h144 (fun a145 h146 => And.intro a145 (qAn h146 (fun a147 h148 => And.intro a147 (qAn h148 (fun h149 h150 => And.intro (fun hc151 => (h149 hc151)) (fun hc151 => (And.intro (hS.1 _ _ _ rfl) (qAn (h150 hc151) (fun a152 h153 => And.intro a152 (qAn h153 (fun a154 h155 => And.intro a154 (qAn h155 (fun a156 h157 => And.intro a156 (And.intro rfl (qEv.go h157 (qLq d rfl) (fun M159 h160 => h160))))))))))))))))); (And.intro (fun hc164 => (k161 0 (h163 0 (if_pos hc164).symm))) (fun hc164 => (And.intro (h162 hc164).1 (And.intro (h162 hc164).2 (k161 (((x7 + v138) - x9) + 1) (h163 (((x7 + v138) - x9) + 1) (if_neg hc164).symm))))))))))))))))))))))))))))
theorem w186 {d : Nat} {h : qH} (hS : qSe h) {x1 : Int} {x2 : Int} {x3 : Int} {x4 : Int} {M : qM} {f : Int → qM → Prop} (H :
    b186_9 d h f x1 (.inl x2) (.inl x3) x4 0 x2 x3 (q_u) (q_u) (q_u) M) : e186 (d + 2) h x1 x2 x3 x4 M f :=
  qJ.body (Nat.le_of_ble_eq_true rfl) (qWq (fun pc => Nat.beq pc 9 || Nat.beq pc 42 || Nat.beq pc 90) 300 H)
theorem w187 {d : Nat} {h : qH} (hS : qSe h) {x1 : Int} {x2 : Int} {x3 : Int} {x4 : Int} {x5 : Int} {M : qM} {f : Int → qM → Prop} (H :
    (qIn (x1 * 5) ∧ (qIn ((x1 * 5) + x2) ∧ (qIn (((x1 * 5) + x2) * 4) ∧ ((0 ≤ x1 ∧ x1 < 72) ∧ (qIn ((((x1 * 5) + x2) * 4) + (M 101 0 x1)) ∧ (qIn (((((x1 * 5) + x2) * 4) + (M 101 0 x1)) - x3) ∧ (qIn ((((((x1 * 5) + x2) * 4) + (M 101 0 x1)) - x3) * 15) ∧ (∀ x115 : Int, x115 = (if x4 = 0 then 0 else x5) → (qIn (((((((x1 * 5) + x2) * 4) + (M 101 0 x1)) - x3) * 15) + x115) ∧ f (((((((x1 * 5) + x2) * 4) + (M 101 0 x1)) - x3) * 15) + x115) M)))))))))) : e187 (d + 1) h x1 x2 x3 x4 x5 M f :=
  qJ.body (Nat.le_of_ble_eq_true rfl) (qWq (fun pc => Nat.beq pc 30) 300 (qAn H (fun a101 h102 => And.intro a101 (qAn h102 (fun a103 h104 => And.intro a103 (qAn h104 (fun a105 h106 => And.intro a105 (And.intro (hS.1 _ _ _ rfl) (qAn h106 (fun a107 h108 => And.intro a107 (qAn h108 (fun a109 h110 => And.intro a109 (qAn h110 (fun a111 h112 => And.intro a111 (qAn h112 (fun a113 h114 => And.intro a113 (have k119 : ∀ (x115 : Int), (qIn (((((((x1 * 5) + x2) * 4) + (M 101 0 x1)) - x3) * 15) + x115) ∧ f (((((((x1 * 5) + x2) * 4) + (M 101 0 x1)) - x3) * 15) + x115) M) → qG (d + 0) (-1, fun _ => 0) (qP 187) (qRi h f) 30 [.inr (.inl (some (11, 0))), .inl x1, .inl x2, .inl x3, .inl x4, .inl x5] [.inl x115, .inl ((((((x1 * 5) + x2) * 4) + (M 101 0 x1)) - x3) * 15)] (h, M) := fun x115 h116 => qWq (fun pc => Nat.beq pc 30) 300 (qAn h116 (fun a117 h118 => And.intro a117 ⟨(((((((x1 * 5) + x2) * 4) + (M 101 0 x1)) - x3) * 15) + x115), M, rfl, rfl, h118⟩)); (And.intro (fun hc120 => (k119 0 (h114 0 (if_pos hc120).symm))) (fun hc120 => (k119 x5 (h114 x5 (if_neg hc120).symm)))))))))))))))))))))
theorem w188 {d : Nat} {h : qH} (hS : qSe h) {x0 : Int} {M : qM} {f : Int → qM → Prop} (H :
    (0 ≤ x0 ∧ ((¬ ((x0 / 300) = 0) → 0 ≤ x0) ∧
    (∀ x103 : Int, x103 = (if (x0 / 300) = 0 then 1 else (if (x0 % 15) ≤ 0 then 0 else 1)) → ((x103 = 0 ∨ x103 = 1) ∧ f x103 M))))) : e188 (d + 1) h x0 M f :=
  qJ.body (Nat.le_of_ble_eq_true rfl) (qWq (fun pc => Nat.beq pc 20) 300 (qAn H (fun a101 h102 => And.intro ⟨a101, by decide⟩ (qAn h102 (fun h106 h107 => (have k105 : ∀ (x103 : Int), ((x103 = 0 ∨ x103 = 1) ∧ f x103 M) → qG (d + 0) (-1, fun _ => 0) (qP 188) (qRi h f) 20 [.inl x0] [.inl x103] (h, M) := fun x103 h104 => qWq (fun pc => Nat.beq pc 20) 300 (And.intro ⟨rfl, h104.1⟩ ⟨x103, M, rfl, rfl, h104.2⟩); (And.intro (fun hc108 => (k105 1 (h107 1 (if_pos hc108).symm))) (fun hc108 => (And.intro ⟨(h106 hc108), by decide⟩ (And.intro (fun hc109 => (k105 0 (h107 0 ((if_neg hc108).trans (if_pos hc109)).symm))) (fun hc109 => (k105 1 (h107 1 ((if_neg hc108).trans (if_neg hc109)).symm)))))))))))))
theorem w189 {d : Nat} {h : qH} (hS : qSe h) {x0 : Int} {M : qM} {f : Int → qM → Prop} (H :
    (0 ≤ x0 ∧ (0 ≤ (x0 / 60) ∧ f ((x0 / 60) % 5) M))) : e189 (d + 1) h x0 M f :=
  qJ.body (Nat.le_of_ble_eq_true rfl) (qWq (fun pc => false) 300 (qAn H (fun a101 h102 => And.intro ⟨a101, by decide⟩ (qAn h102 (fun a103 h104 => And.intro ⟨a103, by decide⟩ ⟨((x0 / 60) % 5), M, rfl, rfl, h104⟩)))))
theorem w190 {d : Nat} {h : qH} (hS : qSe h) {x1 : Int} {M : qM} {f : Int → qM → Prop} (H :
    (0 ≤ x1 ∧ ((0 ≤ (x1 / 300) ∧ (x1 / 300) < 72) ∧ (0 ≤ x1 ∧ (0 ≤ (x1 / 15) ∧ (qIn ((M 101 0 (x1 / 300)) - ((x1 / 15) % 4)) ∧ f ((M 101 0 (x1 / 300)) - ((x1 / 15) % 4)) M)))))) : e190 (d + 1) h x1 M f :=
  qJ.body (Nat.le_of_ble_eq_true rfl) (qWq (fun pc => false) 300 (And.intro (hS.1 _ _ _ rfl) (qAn H (fun a101 h102 => And.intro ⟨a101, by decide⟩ (qAn h102 (fun a103 h104 => And.intro a103 (qAn h104 (fun a105 h106 => And.intro ⟨a105, by decide⟩ (qAn h106 (fun a107 h108 => And.intro ⟨a107, by decide⟩ (qAn h108 (fun a109 h110 => And.intro a109 ⟨((M 101 0 (x1 / 300)) - ((x1 / 15) % 4)), M, rfl, rfl, h110⟩))))))))))))
theorem w191 {d : Nat} {h : qH} (hS : qSe h) {x1 : Int} {x2 : Int} {M : qM} {f : Int → qM → Prop} (H :
    e189 (d + 1) h x2 M (fun v101 M102 => 
    (qIn (v101 + (M102 11 0 51)) ∧ e190 (d + 1) h x2 M102 (fun v106 M107 => 
    (qIn (v106 + (M107 11 0 52)) ∧ e188 (d + 1) h x2 M107 (fun v111 M112 => 
    (∀ x114 : Int, x114 = (if v111 = 0 then 1 else 0) → e187 (d + 1) h x1 (v101 + (M102 11 0 51)) (v106 + (M107 11 0 52)) x114 (M112 11 0 54) M112 (fun v116 M117 => 
    f v116 M117)))))))) : e191 (d + 2) h x1 x2 M f :=
  qJ.body (Nat.le_of_ble_eq_true rfl) (qWq (fun pc => Nat.beq pc 33) 300 (And.intro rfl (qEi.go H (qLq d rfl) (fun v101 M102 h103 => (qAn h103 (fun a104 h105 => And.intro a104 (And.intro rfl (qEi.go h105 (qLq d rfl) (fun v106 M107 h108 => (qAn h108 (fun a109 h110 => And.intro a109 (And.intro rfl (qEi.go h110 (qLq d rfl) (fun v111 M112 h113 => (have k119 : ∀ (x114 : Int), e187 (d + 1) h x1 (v101 + (M102 11 0 51)) (v106 + (M107 11 0 52)) x114 (M112 11 0 54) M112 (fun v116 M117 =>  f v116 M117) → qG (d + 1) (-1, fun _ => 0) (qP 191) (qRi h f) 33 [.inr (.inl (some (11, 0))), .inl x1, .inl x2] [.inl x114, .inl (v106 + (M107 11 0 52)), .inl (v101 + (M102 11 0 51)), .inl x1, .inr (.inl (some (11, 0)))] (h, M112) := fun x114 h115 => qWq (fun pc => Nat.beq pc 33) 300 (And.intro rfl (qEi.go h115 (qLq d rfl) (fun v116 M117 h118 => ⟨v116, M117, rfl, rfl, h118⟩))); (And.intro (fun hc120 => (k119 1 (h113 1 (if_pos hc120).symm))) (fun hc120 => (k119 0 (h113 0 (if_neg hc120).symm)))))))))))))))))))
theorem w192 {d : Nat} {h : qH} (hS : qSe h) {x1 : Int} {x2 : Int} {M : qM} {f : Int → qM → Prop} (H :
    ((0 ≤ x1 ∧ x1 < 72) ∧ (qIn ((M 100 0 x1) - x2) ∧ e153 (d + 1) h 2 ((M 100 0 x1) - x2) M (fun v105 M106 => 
    f v105 M106)))) : e192 (d + 2) h x1 x2 M f :=
  qJ.body (Nat.le_of_ble_eq_true rfl) (qWq (fun pc => false) 300 (And.intro (hS.1 _ _ _ rfl) (qAn H (fun a101 h102 => And.intro a101 (qAn h102 (fun a103 h104 => And.intro a103 (And.intro rfl (qEi.go h104 (qLq d rfl) (fun v105 M106 h107 => ⟨v105, M106, rfl, rfl, h107⟩)))))))))
theorem w193_28 {d : Nat} {h : qH} (hS : qSe h) {f : qM → Prop} {x1 : Int} {x2 : Int} {x3 : Int} {x4 : Int} {x5 : Int} {x6 : Int} {u7 : qV} {u8 : qV} {u9 : qV} {M : qM} (H :
    ((0 ≤ x1 ∧ x1 < 3) ∧ ((x6 ≤ (M 87 0 x1) →
    (qIn (x6 - x5) ∧ (((x6 - x5) ≤ (M 11 0 2) →
      e192 (d + 2) h x6 x4 M (fun v111 M112 => 
        b193_61 d h f x1 x2 x3 x4 x5 x6 v111 (u8) (u9) M112)) ∧
      (¬ ((x6 - x5) ≤ (M 11 0 2)) →
      f M)))) ∧
    (¬ (x6 ≤ (M 87 0 x1)) →
    f M)))) : b193_28 d h f x1 x2 x3 x4 x5 x6 u7 u8 u9 M :=
  qWq (fun pc => Nat.beq pc 28 || Nat.beq pc 61) 300 (And.intro (hS.1 _ _ _ rfl) (qAn H (fun a101 h102 => And.intro a101 (qAn h102 (fun h103 h104 => And.intro (fun hc105 => (qAn (h103 hc105) (fun a106 h107 => And.intro a106 (qAn h107 (fun h108 h109 => And.intro (fun hc110 => (And.intro rfl (qEi.go (h108 hc110) (qLq d rfl) (fun v111 M112 h113 => h113)))) (fun hc110 => (And.intro rfl ⟨M, rfl, rfl, (h109 hc110)⟩))))))) (fun hc105 => (And.intro rfl ⟨M, rfl, rfl, (h104 hc105)⟩)))))))
theorem w193_61 {d : Nat} {h : qH} (hS : qSe h) {f : qM → Prop} {x1 : Int} {x2 : Int} {x3 : Int} {x4 : Int} {x5 : Int} {x6 : Int} {x7 : Int} {u8 : qV} {u9 : qV} {M : qM} (H :
    ((x7 < 0 →
    (qIn (x6 + 1) ∧ b193_28 d h f x1 x2 x3 x4 x5 (x6 + 1) (.inl x7) (u8) (u9) M)) ∧
    (¬ (x7 < 0) →
    (qIn (x6 - x5) ∧ e198 (d + 3) h x1 x2 (x6 - x5) x7 M (fun v108 M109 => 
      ((v108 = 0 →
      (qIn (x7 + (-1)) ∧ b193_61 d h f x1 x2 x3 x4 x5 x6 (x7 + (-1)) (u8) (u9) M109)) ∧
      (¬ (v108 = 0) →
      e191 (d + 2) h x6 x2 M109 (fun v116 M117 => 
        ((x3 = 0 →
        ((0 ≤ x1 ∧ x1 < 3) ∧ ((x6 < (M117 87 0 x1) →
          ((0 ≤ v116 ∧ v116 < 20400) ∧ (qIn ((M117 11 0 55) + (M117 104 0 v116)) ∧ ((0 ≤ x2 ∧ x2 < 20400) ∧ e153 (d + 1) h (M117 104 0 x2) ((M117 11 0 55) + (M117 104 0 v116)) M117 (fun v133 M134 => 
            ((0 ≤ x2 ∧ x2 < 20400) ∧ ∀ M136, M136 = qU M134 104 0 x2 v133 → (qIn (x7 + (-1)) ∧ b193_61 d h f x1 x2 x3 x4 x5 x6 (x7 + (-1)) (.inl v116) (.inl ((M117 11 0 55) + (M117 104 0 v116))) M136))))))) ∧
          (¬ (x6 < (M117 87 0 x1)) →
          (qIn (x4 + (M117 11 0 51)) ∧ e190 (d + 1) h x2 M117 (fun v143 M144 => 
            (qIn (v143 + (M144 11 0 52)) ∧ e186 (d + 2) h x1 (x4 + (M117 11 0 51)) (v143 + (M144 11 0 52)) 0 M144 (fun v148 M149 => 
            (qIn (5 * v148) ∧ (qIn ((M117 11 0 55) + (5 * v148)) ∧ ((0 ≤ x2 ∧ x2 < 20400) ∧ e153 (d + 1) h (M149 104 0 x2) ((M117 11 0 55) + (5 * v148)) M149 (fun v157 M158 => 
            ((0 ≤ x2 ∧ x2 < 20400) ∧ ∀ M160, M160 = qU M158 104 0 x2 v157 → (qIn (x7 + (-1)) ∧ b193_61 d h f x1 x2 x3 x4 x5 x6 (x7 + (-1)) (.inl v116) (.inl ((M117 11 0 55) + (5 * v148))) M160)))))))))))))) ∧
        (¬ (x3 = 0) →
        ((0 ≤ v116 ∧ v116 < 20400) ∧ ∀ M165, M165 = qU M117 103 0 v116 1 → (qIn (x7 + (-1)) ∧ b193_61 d h f x1 x2 x3 x4 x5 x6 (x7 + (-1)) (.inl v116) (u9) M165)))))))))))) : b193_61 d h f x1 x2 x3 x4 x5 x6 x7 u8 u9 M :=
  qWq (fun pc => Nat.beq pc 28 || Nat.beq pc 61) 300 (qAn H (fun h101 h102 => And.intro (fun hc103 => (qAn (h101 hc103) (fun a104 h105 => And.intro a104 h105))) (fun hc103 => (qAn (h102 hc103) (fun a106 h107 => And.intro a106 (And.intro rfl (qEi.go h107 (qLq d rfl) (fun v108 M109 h110 => (qAn h110 (fun h111 h112 => And.intro (fun hc113 => (qAn (h111 hc113) (fun a114 h115 => And.intro a114 h115))) (fun hc113 => (And.intro rfl (qEi.go (h112 hc113) (qLq d rfl) (fun v116 M117 h118 => (qAn h118 (fun h119 h120 => And.intro (fun hc121 => (And.intro (hS.1 _ _ _ rfl) (qAn (h119 hc121) (fun a122 h123 => And.intro a122 (qAn h123 (fun h124 h125 => And.intro (fun hc126 => (And.intro (hS.1 _ _ _ rfl) (qAn (h124 hc126) (fun a127 h128 => And.intro a127 (qAn h128 (fun a129 h130 => And.intro a129 (And.intro (hS.1 _ _ _ rfl) (And.intro (hS.1 _ _ _ rfl) (qAn h130 (fun a131 h132 => And.intro a131 (And.intro rfl (qEi.go h132 (qLq d rfl) (fun v133 M134 h135 => (qAn h135 (fun a137 h138 => And.intro a137 (qAn (h138 _ rfl) (fun a139 h140 => And.intro a139 h140))))))))))))))))) (fun hc126 => (qAn (h125 hc126) (fun a141 h142 => And.intro a141 (And.intro rfl (qEi.go h142 (qLq d rfl) (fun v143 M144 h145 => (qAn h145 (fun a146 h147 => And.intro a146 (And.intro rfl (qEi.go h147 (qLq d rfl) (fun v148 M149 h150 => (qAn h150 (fun a151 h152 => And.intro a151 (qAn h152 (fun a153 h154 => And.intro a153 (And.intro (hS.1 _ _ _ rfl) (And.intro (hS.1 _ _ _ rfl) (qAn h154 (fun a155 h156 => And.intro a155 (And.intro rfl (qEi.go h156 (qLq d rfl) (fun v157 M158 h159 => (qAn h159 (fun a161 h162 => And.intro a161 (qAn (h162 _ rfl) (fun a163 h164 => And.intro a163 h164)))))))))))))))))))))))))))))))) (fun hc121 => (And.intro (hS.1 _ _ _ rfl) (qAn (h120 hc121) (fun a166 h167 => And.intro ⟨a166.1, a166.2, Or.inr rfl⟩ (qAn (h167 _ rfl) (fun a168 h169 => And.intro a168 h169))))))))))))))))))))))
theorem w193 {d : Nat} {h : qH} (hS : qSe h) {x1 : Int} {x2 : Int} {x3 : Int} {M : qM} {f : qM → Prop} (H :
    e189 (d + 1) h x2 M (fun v101 M102 => 
    (0 ≤ x2 ∧ ((0 ≤ x2 ∧ x2 < 20400) ∧ ∀ M106, M106 = qU M102 104 0 x2 536870912 → (qIn ((x2 / 300) + 1) ∧ b193_28 d h f x1 x2 x3 v101 (x2 / 300) ((x2 / 300) + 1) (q_u) (q_u) (q_u) M106))))) : e193 (d + 4) h x1 x2 x3 M f :=
  qJ.body (Nat.le_of_ble_eq_true rfl) (qWq (fun pc => Nat.beq pc 28 || Nat.beq pc 61) 300 (And.intro rfl (qEi.go H (qLq d rfl) (fun v101 M102 h103 => (qAn h103 (fun a104 h105 => And.intro ⟨a104, by decide⟩ (And.intro (hS.1 _ _ _ rfl) (qAn h105 (fun a107 h108 => And.intro a107 (qAn (h108 _ rfl) (fun a109 h110 => And.intro a109 h110)))))))))))
theorem w194_13 {d : Nat} {h : qH} (hS : qSe h) {f : Int → qM → Prop} {x1 : Int} {x2 : Int} {x3 : Int} {x4 : Int} {M : qM} (H :
    ((0 ≤ x1 ∧ x1 < 3) ∧ (qIn ((M 87 0 x1) + 1) ∧ (qIn (((M 87 0 x1) + 1) * 300) ∧ ((x4 < (((M 87 0 x1) + 1) * 300) →
    (∀ x110 : Int, x110 = (if x4 = x2 then 1 else 0) → ((0 ≤ x4 ∧ x4 < 20400 ∧ (x110 = 0 ∨ x110 = 1)) ∧ ∀ M112, M112 = qU M 103 0 x4 x110 → (qIn (x4 + 1) ∧ b194_13 d h f x1 x2 x3 (x4 + 1) M112)))) ∧
    (¬ (x4 < (((M 87 0 x1) + 1) * 300)) →
    (qIn (x3 * 300) ∧ b194_61 d h f x1 x2 x3 (x3 * 300) M))))))) : b194_13 d h f x1 x2 x3 x4 M :=
  qWq (fun pc => Nat.beq pc 13 || Nat.beq pc 47 || Nat.beq pc 61 || Nat.beq pc 114) 300 (And.intro (hS.1 _ _ _ rfl) (qAn H (fun a101 h102 => And.intro a101 (qAn h102 (fun a103 h104 => And.intro a103 (qAn h104 (fun a105 h106 => And.intro a105 (qAn h106 (fun h107 h108 => And.intro (fun hc109 => (And.intro (hS.1 _ _ _ rfl) (have k117 : ∀ (x110 : Int), ((0 ≤ x4 ∧ x4 < 20400 ∧ (x110 = 0 ∨ x110 = 1)) ∧ ∀ M112, M112 = qU M 103 0 x4 x110 → (qIn (x4 + 1) ∧ b194_13 d h f x1 x2 x3 (x4 + 1) M112)) → qG (d + 4) (-1, fun _ => 0) (qP 194) (qRi h f) 47 [.inr (.inl (some (11, 0))), .inl x1, .inl x2, .inl x3, .inl x4] [.inl x110, .inl x4, .inr (.inl (some (103, 0)))] (h, M) := fun x110 h111 => qWq (fun pc => Nat.beq pc 13 || Nat.beq pc 47 || Nat.beq pc 61 || Nat.beq pc 114) 300 (qAn h111 (fun a113 h114 => And.intro a113 (qAn (h114 _ rfl) (fun a115 h116 => And.intro a115 h116)))); (And.intro (fun hc118 => (k117 1 ((h107 hc109) 1 (if_pos hc118).symm))) (fun hc118 => (k117 0 ((h107 hc109) 0 (if_neg hc118).symm))))))) (fun hc109 => (qAn (h108 hc109) (fun a119 h120 => And.intro a119 h120))))))))))))
theorem w194_61 {d : Nat} {h : qH} (hS : qSe h) {f : Int → qM → Prop} {x1 : Int} {x2 : Int} {x3 : Int} {x4 : Int} {M : qM} (H :
    ((0 ≤ x1 ∧ x1 < 3) ∧ (qIn ((M 87 0 x1) * 300) ∧ ((x4 < ((M 87 0 x1) * 300) →
    ((0 ≤ x4 ∧ x4 < 20400) ∧ (((M 103 0 x4) = 0 →
      (qIn (x4 + 1) ∧ b194_61 d h f x1 x2 x3 (x4 + 1) M)) ∧
      (¬ ((M 103 0 x4) = 0) →
      e193 (d + 4) h x1 x4 1 M (fun M116 => 
        (qIn (x4 + 1) ∧ b194_61 d h f x1 x2 x3 (x4 + 1) M116)))))) ∧
    (¬ (x4 < ((M 87 0 x1) * 300)) →
    ((0 ≤ x1 ∧ x1 < 3) ∧ (qIn ((M 87 0 x1) * 300) ∧ (qIn (((M 87 0 x1) * 300) - 1) ∧ b194_114 d h f x1 x2 x3 (((M 87 0 x1) * 300) - 1) M)))))))) : b194_61 d h f x1 x2 x3 x4 M :=
  qWq (fun pc => Nat.beq pc 13 || Nat.beq pc 61 || Nat.beq pc 114) 300 (And.intro (hS.1 _ _ _ rfl) (qAn H (fun a101 h102 => And.intro a101 (qAn h102 (fun a103 h104 => And.intro a103 (qAn h104 (fun h105 h106 => And.intro (fun hc107 => (And.intro (hS.1 _ _ _ rfl) (qAn (h105 hc107) (fun a108 h109 => And.intro a108 (qAn h109 (fun h110 h111 => And.intro (fun hc112 => (qAn (h110 hc112) (fun a113 h114 => And.intro a113 h114))) (fun hc112 => (And.intro rfl (qEv.go (h111 hc112) (qLq d rfl) (fun M116 h117 => (qAn h117 (fun a118 h119 => And.intro a118 h119)))))))))))) (fun hc107 => (And.intro (hS.1 _ _ _ rfl) (qAn (h106 hc107) (fun a120 h121 => And.intro a120 (qAn h121 (fun a122 h123 => And.intro a122 (qAn h123 (fun a124 h125 => And.intro a124 h125)))))))))))))))
theorem w194_114 {d : Nat} {h : qH} (hS : qSe h) {f : Int → qM → Prop} {x1 : Int} {x2 : Int} {x3 : Int} {x4 : Int} {M : qM} (H :
    (qIn (x3 * 300) ∧ ((x4 < (x3 * 300) →
    ((0 ≤ x2 ∧ x2 < 20400) ∧ f (M 104 0 x2) M)) ∧
    (¬ (x4 < (x3 * 300)) →
    ((0 ≤ x4 ∧ x4 < 20400) ∧ (((M 103 0 x4) = 0 →
      (qIn (x4 + (-1)) ∧ b194_114 d h f x1 x2 x3 (x4 + (-1)) M)) ∧
      (¬ ((M 103 0 x4) = 0) →
      e193 (d + 4) h x1 x4 0 M (fun M116 => 
        (qIn (x4 + (-1)) ∧ b194_114 d h f x1 x2 x3 (x4 + (-1)) M116))))))))) : b194_114 d h f x1 x2 x3 x4 M :=
  qWq (fun pc => Nat.beq pc 13 || Nat.beq pc 61 || Nat.beq pc 114) 300 (qAn H (fun a101 h102 => And.intro a101 (qAn h102 (fun h103 h104 => And.intro (fun hc105 => (And.intro (hS.1 _ _ _ rfl) (qAn (h103 hc105) (fun a106 h107 => And.intro a106 ⟨(M 104 0 x2), M, rfl, rfl, h107⟩)))) (fun hc105 => (And.intro (hS.1 _ _ _ rfl) (qAn (h104 hc105) (fun a108 h109 => And.intro a108 (qAn h109 (fun h110 h111 => And.intro (fun hc112 => (qAn (h110 hc112) (fun a113 h114 => And.intro a113 h114))) (fun hc112 => (And.intro rfl (qEv.go (h111 hc112) (qLq d rfl) (fun M116 h117 => (qAn h117 (fun a118 h119 => And.intro a118 h119))))))))))))))))
theorem w194 {d : Nat} {h : qH} (hS : qSe h) {x1 : Int} {x2 : Int} {M : qM} {f : Int → qM → Prop} (H :
    (0 ≤ x2 ∧ (qIn ((x2 / 300) * 300) ∧ b194_13 d h f x1 x2 (x2 / 300) ((x2 / 300) * 300) M))) : e194 (d + 5) h x1 x2 M f :=
  qJ.body (Nat.le_of_ble_eq_true rfl) (qWq (fun pc => Nat.beq pc 13 || Nat.beq pc 61 || Nat.beq pc 114) 300 (qAn H (fun a101 h102 => And.intro ⟨a101, by decide⟩ (qAn h102 (fun a103 h104 => And.intro a103 h104)))))
theorem w195_109 {d : Nat} {h : qH} (hS : qSe h) {f : qM → Prop} {x1 : Int} {x2 : Int} {x3 : Int} {u4 : qV} {u5 : qV} {u6 : qV} {u7 : qV} {u8 : qV} {u9 : qV} {x10 : Int} {M : qM} (H :
    (qIn (x2 + x3) ∧ ((x10 < (x2 + x3) →
    (qIn (70 * x1) ∧ (qIn ((70 * x1) + x10) ∧ ((0 ≤ ((70 * x1) + x10) ∧ ((70 * x1) + x10) < 210) ∧ ∀ M110, M110 = qU M 92 0 ((70 * x1) + x10) (M 11 0 58) → (qIn (x10 + 1) ∧ b195_109 d h f x1 x2 x3 (u4) (u5) (u6) (u7) (u8) (u9) (x10 + 1) M110))))) ∧
    (¬ (x10 < (x2 + x3)) →
    f M)))) : b195_109 d h f x1 x2 x3 u4 u5 u6 u7 u8 u9 x10 M :=
  qWq (fun pc => Nat.beq pc 109) 300 (qAn H (fun a101 h102 => And.intro a101 (qAn h102 (fun h103 h104 => And.intro (fun hc105 => (And.intro (hS.1 _ _ _ rfl) (qAn (h103 hc105) (fun a106 h107 => And.intro a106 (qAn h107 (fun a108 h109 => And.intro a108 (qAn h109 (fun a111 h112 => And.intro a111 (qAn (h112 _ rfl) (fun a113 h114 => And.intro a113 h114)))))))))) (fun hc105 => (And.intro rfl ⟨M, rfl, rfl, (h104 hc105)⟩))))))
theorem w195 {d : Nat} {h : qH} (hS : qSe h) {x1 : Int} {x2 : Int} {x3 : Int} {x4 : Int} {x5 : Int} {x6 : Int} {x7 : Int} {x8 : Int} {x9 : Int} {M : qM} {f : qM → Prop} (H :
    (qIn ((M 11 0 58) + 1) ∧ (∀ M103, M103 = qU M 11 0 58 ((M 11 0 58) + 1) → ((0 ≤ (M103 11 0 58) ∧ (M103 11 0 58) < 400) ∧ ∀ M104, M104 = qU M103 105 0 (M103 11 0 58) x1 → ((0 ≤ (M104 11 0 58) ∧ (M104 11 0 58) < 400) ∧ ∀ M107, M107 = qU M104 106 0 (M104 11 0 58) x2 → ((0 ≤ (M107 11 0 58) ∧ (M107 11 0 58) < 400) ∧ ∀ M110, M110 = qU M107 107 0 (M107 11 0 58) x3 → ((0 ≤ (M110 11 0 58) ∧ (M110 11 0 58) < 400) ∧ ∀ M113, M113 = qU M110 108 0 (M110 11 0 58) x4 → ((0 ≤ (M113 11 0 58) ∧ (M113 11 0 58) < 400) ∧ ∀ M116, M116 = qU M113 109 0 (M113 11 0 58) x5 → ((0 ≤ (M116 11 0 58) ∧ (M116 11 0 58) < 400) ∧ ∀ M119, M119 = qU M116 110 0 (M116 11 0 58) x6 → ((0 ≤ (M119 11 0 58) ∧ (M119 11 0 58) < 400) ∧ ∀ M122, M122 = qU M119 111 0 (M119 11 0 58) x7 → ((0 ≤ (M122 11 0 58) ∧ (M122 11 0 58) < 400) ∧ ∀ M125, M125 = qU M122 112 0 (M122 11 0 58) x8 → ((0 ≤ (M125 11 0 58) ∧ (M125 11 0 58) < 400) ∧ ∀ M128, M128 = qU M125 113 0 (M125 11 0 58) x9 → b195_109 d h f x1 x2 x3 (.inl x4) (.inl x5) (.inl x6) (.inl x7) (.inl x8) (.inl x9) x2 M128)))))))))))) : e195 (d + 1) h x1 x2 x3 x4 x5 x6 x7 x8 x9 M f :=
  qJ.body (Nat.le_of_ble_eq_true rfl) (qWq (fun pc => Nat.beq pc 109) 300 (qAn H (fun a101 h102 => And.intro a101 (And.intro (hS.1 _ _ _ rfl) (qAn (h102 _ rfl) (fun a105 h106 => And.intro a105 (And.intro (hS.1 _ _ _ rfl) (qAn (h106 _ rfl) (fun a108 h109 => And.intro a108 (And.intro (hS.1 _ _ _ rfl) (qAn (h109 _ rfl) (fun a111 h112 => And.intro a111 (And.intro (hS.1 _ _ _ rfl) (qAn (h112 _ rfl) (fun a114 h115 => And.intro a114 (And.intro (hS.1 _ _ _ rfl) (qAn (h115 _ rfl) (fun a117 h118 => And.intro a117 (And.intro (hS.1 _ _ _ rfl) (qAn (h118 _ rfl) (fun a120 h121 => And.intro a120 (And.intro (hS.1 _ _ _ rfl) (qAn (h121 _ rfl) (fun a123 h124 => And.intro a123 (And.intro (hS.1 _ _ _ rfl) (qAn (h124 _ rfl) (fun a126 h127 => And.intro a126 (And.intro (hS.1 _ _ _ rfl) (qAn (h127 _ rfl) (fun a129 h130 => And.intro a129 (h130 _ rfl)))))))))))))))))))))))))))))))
theorem w196 {d : Nat} {h : qH} (hS : qSe h) {x1 : Int} {M : qM} {f : qM → Prop} (H :
    e195 (d + 1) h x1 0 0 0 0 0 0 0 0 M (fun M102 => 
    f M102)) : e196 (d + 2) h x1 M f :=
  qJ.body (Nat.le_of_ble_eq_true rfl) (qWq (fun pc => false) 300 (And.intro rfl (qEv.go H (qLq d rfl) (fun M102 h103 => (And.intro rfl ⟨M102, rfl, rfl, h103⟩)))))
theorem w197 {d : Nat} {h : qH} (hS : qSe h) {x1 : Int} {x2 : Int} {x3 : Int} {M : qM} {f : Int → qM → Prop} (H :
    (0 ≤ x2 ∧ e189 (d + 1) h x2 M (fun v103 M104 => 
    e190 (d + 1) h x2 M104 (fun v106 M107 => 
    e195 (d + 1) h x1 (x2 / 300) x3 v103 (M104 11 0 51) v106 (M107 11 0 52) (M107 11 0 53) (M107 11 0 54) M107 (fun M110 => 
    ((0 ≤ x1 ∧ x1 < 3) ∧ (qIn ((M110 116 0 x1) + (M110 11 0 55)) ∧ ((0 ≤ x1 ∧ x1 < 3) ∧ ∀ M116, M116 = qU M110 116 0 x1 ((M110 116 0 x1) + (M110 11 0 55)) → (qIn ((x2 / 300) + x3) ∧ e191 (d + 2) h ((x2 / 300) + x3) x2 M116 (fun v121 M122 => 
    f v121 M122)))))))))) : e197 (d + 3) h x1 x2 x3 M f :=
  qJ.body (Nat.le_of_ble_eq_true rfl) (qWq (fun pc => false) 300 (qAn H (fun a101 h102 => And.intro ⟨a101, by decide⟩ (And.intro rfl (qEi.go h102 (qLq d rfl) (fun v103 M104 h105 => (And.intro rfl (qEi.go h105 (qLq d rfl) (fun v106 M107 h108 => (And.intro rfl (qEv.go h108 (qLq d rfl) (fun M110 h111 => (And.intro (hS.1 _ _ _ rfl) (qAn h111 (fun a112 h113 => And.intro a112 (qAn h113 (fun a114 h115 => And.intro a114 (qAn h115 (fun a117 h118 => And.intro a117 (qAn (h118 _ rfl) (fun a119 h120 => And.intro a119 (And.intro rfl (qEi.go h120 (qLq d rfl) (fun v121 M122 h123 => ⟨v121, M122, rfl, rfl, h123⟩))))))))))))))))))))))))
theorem w198 {d : Nat} {h : qH} (hS : qSe h) {x1 : Int} {x2 : Int} {x3 : Int} {x4 : Int} {M : qM} {f : Int → qM → Prop} (H :
    (0 ≤ x2 ∧ e189 (d + 1) h x2 M (fun v103 M104 => 
    e190 (d + 1) h x2 M104 (fun v106 M107 => 
    (0 ≤ x2 ∧ e185 (d + 2) h x1 (x2 / 300) v103 v106 (x2 % 15) x3 x4 M107 (fun v111 M112 => 
    ((v111 = 0 ∨ v111 = 1) ∧ f v111 M112))))))) : e198 (d + 3) h x1 x2 x3 x4 M f :=
  qJ.body (Nat.le_of_ble_eq_true rfl) (qWq (fun pc => false) 300 (qAn H (fun a101 h102 => And.intro ⟨a101, by decide⟩ (And.intro rfl (qEi.go h102 (qLq d rfl) (fun v103 M104 h105 => (And.intro rfl (qEi.go h105 (qLq d rfl) (fun v106 M107 h108 => (qAn h108 (fun a109 h110 => And.intro ⟨a109, by decide⟩ (And.intro rfl (qEi.go h110 (qLq d rfl) (fun v111 M112 h113 => (And.intro ⟨rfl, h113.1⟩ ⟨v111, M112, rfl, rfl, h113.2⟩)))))))))))))))
theorem w199_29 {d : Nat} {h : qH} (hS : qSe h) {f : Int → qM → Prop} {x1 : Int} {x2 : Int} {x3 : Int} {x4 : Int} {x5 : Int} {u6 : qV} {u7 : qV} {M : qM} (H :
    ((x5 ≤ x3 →
    f (-1) M) ∧
    (¬ (x5 ≤ x3) →
    e192 (d + 2) h x5 x4 M (fun v104 M105 => 
      b199_45 d h f x1 x2 x3 x4 x5 v104 (u7) M105)))) : b199_29 d h f x1 x2 x3 x4 x5 u6 u7 M :=
  qWq (fun pc => Nat.beq pc 29 || Nat.beq pc 45) 300 (qAn H (fun h101 h102 => And.intro (fun hc103 => ⟨(-1), M, rfl, rfl, (h101 hc103)⟩) (fun hc103 => (And.intro rfl (qEi.go (h102 hc103) (qLq d rfl) (fun v104 M105 h106 => h106))))))
theorem w199_45 {d : Nat} {h : qH} (hS : qSe h) {f : Int → qM → Prop} {x1 : Int} {x2 : Int} {x3 : Int} {x4 : Int} {x5 : Int} {x6 : Int} {u7 : qV} {M : qM} (H :
    ((x6 < 0 →
    (qIn (x5 + (-1)) ∧ b199_29 d h f x1 x2 x3 x4 (x5 + (-1)) (.inl x6) (u7) M)) ∧
    (¬ (x6 < 0) →
    (qIn (x5 - x3) ∧ e198 (d + 3) h x1 x2 (x5 - x3) x6 M (fun v108 M109 => 
      ((v108 = 0 →
      (qIn (x6 + (-1)) ∧ b199_45 d h f x1 x2 x3 x4 x5 (x6 + (-1)) (u7) M109)) ∧
      (¬ (v108 = 0) →
      ((0 ≤ x1 ∧ x1 < 3) ∧ ((x5 < (M109 87 0 x1) →
        e191 (d + 2) h x5 x2 M109 (fun v121 M122 => 
          ((0 ≤ v121 ∧ v121 < 20400) ∧ (qIn ((M122 11 0 55) + (M122 104 0 v121)) ∧ ((0 ≤ x2 ∧ x2 < 20400) ∧ ((((M122 11 0 55) + (M122 104 0 v121)) = (M122 104 0 x2) →
          (qIn (x5 - x3) ∧ e197 (d + 3) h x1 x2 (x5 - x3) M122 (fun v135 M136 => 
            f v135 M136))) ∧
          (¬ (((M122 11 0 55) + (M122 104 0 v121)) = (M122 104 0 x2)) →
          (qIn (x6 + (-1)) ∧ b199_45 d h f x1 x2 x3 x4 x5 (x6 + (-1)) (.inl (M122 104 0 v121)) M122)))))))) ∧
        (¬ (x5 < (M109 87 0 x1)) →
        (qIn (x4 + x6) ∧ e190 (d + 1) h x2 M109 (fun v142 M143 => 
          (qIn (v142 + (M143 11 0 52)) ∧ e186 (d + 2) h x1 (x4 + x6) (v142 + (M143 11 0 52)) 0 M143 (fun v147 M148 => 
          (qIn (5 * v147) ∧ (qIn ((M148 11 0 55) + (5 * v147)) ∧ ((0 ≤ x2 ∧ x2 < 20400) ∧ ((((M148 11 0 55) + (5 * v147)) = (M148 104 0 x2) →
          (qIn (x5 - x3) ∧ e197 (d + 3) h x1 x2 (x5 - x3) M148 (fun v161 M162 => 
            f v161 M162))) ∧
          (¬ (((M148 11 0 55) + (5 * v147)) = (M148 104 0 x2)) →
          (qIn (x6 + (-1)) ∧ b199_45 d h f x1 x2 x3 x4 x5 (x6 + (-1)) (.inl (5 * v147)) M148)))))))))))))))))))) : b199_45 d h f x1 x2 x3 x4 x5 x6 u7 M :=
  qWq (fun pc => Nat.beq pc 29 || Nat.beq pc 45) 300 (qAn H (fun h101 h102 => And.intro (fun hc103 => (qAn (h101 hc103) (fun a104 h105 => And.intro a104 h105))) (fun hc103 => (qAn (h102 hc103) (fun a106 h107 => And.intro a106 (And.intro rfl (qEi.go h107 (qLq d rfl) (fun v108 M109 h110 => (qAn h110 (fun h111 h112 => And.intro (fun hc113 => (qAn (h111 hc113) (fun a114 h115 => And.intro a114 h115))) (fun hc113 => (And.intro (hS.1 _ _ _ rfl) (qAn (h112 hc113) (fun a116 h117 => And.intro a116 (qAn h117 (fun h118 h119 => And.intro (fun hc120 => (And.intro (hS.1 _ _ _ rfl) (And.intro rfl (qEi.go (h118 hc120) (qLq d rfl) (fun v121 M122 h123 => (qAn h123 (fun a124 h125 => And.intro a124 (qAn h125 (fun a126 h127 => And.intro a126 (And.intro (hS.1 _ _ _ rfl) (qAn h127 (fun a128 h129 => And.intro a128 (qAn h129 (fun h130 h131 => And.intro (fun hc132 => (qAn (h130 hc132) (fun a133 h134 => And.intro a133 (And.intro rfl (qEi.go h134 (qLq d rfl) (fun v135 M136 h137 => ⟨v135, M136, rfl, rfl, h137⟩)))))) (fun hc132 => (qAn (h131 hc132) (fun a138 h139 => And.intro a138 h139))))))))))))))))) (fun hc120 => (qAn (h119 hc120) (fun a140 h141 => And.intro a140 (And.intro rfl (qEi.go h141 (qLq d rfl) (fun v142 M143 h144 => (qAn h144 (fun a145 h146 => And.intro a145 (And.intro rfl (qEi.go h146 (qLq d rfl) (fun v147 M148 h149 => (qAn h149 (fun a150 h151 => And.intro a150 (qAn h151 (fun a152 h153 => And.intro a152 (And.intro (hS.1 _ _ _ rfl) (qAn h153 (fun a154 h155 => And.intro a154 (qAn h155 (fun h156 h157 => And.intro (fun hc158 => (qAn (h156 hc158) (fun a159 h160 => And.intro a159 (And.intro rfl (qEi.go h160 (qLq d rfl) (fun v161 M162 h163 => ⟨v161, M162, rfl, rfl, h163⟩)))))) (fun hc158 => (qAn (h157 hc158) (fun a164 h165 => And.intro a164 h165)))))))))))))))))))))))))))))))))))))))
theorem w199 {d : Nat} {h : qH} (hS : qSe h) {x1 : Int} {x2 : Int} {M : qM} {f : Int → qM → Prop} (H :
    (0 ≤ x2 ∧ e189 (d + 1) h x2 M (fun v103 M104 => 
    ((0 ≤ x1 ∧ x1 < 3) ∧ (qIn ((x2 / 300) + (M104 11 0 2)) ∧ e153 (d + 1) h (M104 87 0 x1) ((x2 / 300) + (M104 11 0 2)) M104 (fun v110 M111 => 
    b199_29 d h f x1 x2 (x2 / 300) v103 v110 (q_u) (q_u) M111)))))) : e199 (d + 4) h x1 x2 M f :=
  qJ.body (Nat.le_of_ble_eq_true rfl) (qWq (fun pc => Nat.beq pc 29 || Nat.beq pc 45) 300 (qAn H (fun a101 h102 => And.intro ⟨a101, by decide⟩ (And.intro rfl (qEi.go h102 (qLq d rfl) (fun v103 M104 h105 => (And.intro (hS.1 _ _ _ rfl) (qAn h105 (fun a106 h107 => And.intro a106 (qAn h107 (fun a108 h109 => And.intro a108 (And.intro rfl (qEi.go h109 (qLq d rfl) (fun v110 M111 h112 => h112))))))))))))))
theorem w200 {d : Nat} {h : qH} (hS : qSe h) {x1 : Int} {x2 : Int} {M : qM} {f : Int → qM → Prop} (H :
    (qIn (70 * x1) ∧ (qIn ((70 * x1) + x2) ∧ (qIn (10 * x1) ∧ ((0 ≤ ((70 * x1) + x2) ∧ ((70 * x1) + x2) < 210) ∧ (qIn ((10 * x1) + (M 88 0 ((70 * x1) + x2))) ∧ ((0 ≤ x1 ∧ x1 < 3) ∧ ((x2 < (M 87 0 x1) → ((0 ≤ x1 ∧ x1 < 3) ∧ (x2 < (M 119 0 x1) → ((0 ≤ ((70 * x1) + x2) ∧ ((70 * x1) + x2) < 210) ∧ ((0 ≤ ((70 * x1) + x2) ∧ ((70 * x1) + x2) < 210) ∧ ((M 88 0 ((70 * x1) + x2)) = (M 121 0 ((70 * x1) + x2)) → ((0 ≤ ((10 * x1) + (M 88 0 ((70 * x1) + x2))) ∧ ((10 * x1) + (M 88 0 ((70 * x1) + x2))) < 30) ∧ (0 ≤ ((10 * x1) + (M 88 0 ((70 * x1) + x2))) ∧ ((10 * x1) + (M 88 0 ((70 * x1) + x2))) < 30)))))))) ∧
    (∀ x113 : Int, x113 = (if x2 < (M 87 0 x1) then (if x2 < (M 119 0 x1) then (if (M 88 0 ((70 * x1) + x2)) = (M 121 0 ((70 * x1) + x2)) then (if (M 68 0 ((10 * x1) + (M 88 0 ((70 * x1) + x2)))) = (M 120 0 ((10 * x1) + (M 88 0 ((70 * x1) + x2)))) then 1 else 0) else 0) else 0) else 0) → ((¬ (x113 = 0) → ((0 ≤ ((70 * x1) + x2) ∧ ((70 * x1) + x2) < 210) ∧ ((0 ≤ ((70 * x1) + x2) ∧ ((70 * x1) + x2) < 210) ∧ ((M 90 0 ((70 * x1) + x2)) = (M 122 0 ((70 * x1) + x2)) → ((0 ≤ ((70 * x1) + x2) ∧ ((70 * x1) + x2) < 210) ∧ (0 ≤ ((70 * x1) + x2) ∧ ((70 * x1) + x2) < 210)))))) ∧
    (∀ x115 : Int, x115 = (if x113 = 0 then 0 else (if (M 90 0 ((70 * x1) + x2)) = (M 122 0 ((70 * x1) + x2)) then (if (M 91 0 ((70 * x1) + x2)) = (M 123 0 ((70 * x1) + x2)) then 1 else 0) else 0)) → ((x115 = 0 ∨ x115 = 1) ∧ f x115 M)))))))))))) : e200 (d + 1) h x1 x2 M f :=
  qJ.body (Nat.le_of_ble_eq_true rfl) (qWq (fun pc => Nat.beq pc 77 || Nat.beq pc 119) 300 (qAn H (fun a101 h102 => And.intro a101 (qAn h102 (fun a103 h104 => And.intro a103 (qAn h104 (fun a105 h106 => And.intro a105 (And.intro (hS.1 _ _ _ rfl) (qAn h106 (fun a107 h108 => And.intro a107 (qAn h108 (fun a109 h110 => And.intro a109 (And.intro (hS.1 _ _ _ rfl) (qAn h110 (fun a111 h112 => And.intro a111 (qAn h112 (fun h124 h125 => (have k123 : ∀ (x113 : Int), ((¬ (x113 = 0) → ((0 ≤ ((70 * x1) + x2) ∧ ((70 * x1) + x2) < 210) ∧ ((0 ≤ ((70 * x1) + x2) ∧ ((70 * x1) + x2) < 210) ∧ ((M 90 0 ((70 * x1) + x2)) = (M 122 0 ((70 * x1) + x2)) → ((0 ≤ ((70 * x1) + x2) ∧ ((70 * x1) + x2) < 210) ∧ (0 ≤ ((70 * x1) + x2) ∧ ((70 * x1) + x2) < 210)))))) ∧ (∀ x115 : Int, x115 = (if x113 = 0 then 0 else (if (M 90 0 ((70 * x1) + x2)) = (M 122 0 ((70 * x1) + x2)) then (if (M 91 0 ((70 * x1) + x2)) = (M 123 0 ((70 * x1) + x2)) then 1 else 0) else 0)) → ((x115 = 0 ∨ x115 = 1) ∧ f x115 M))) → qG (d + 0) (-1, fun _ => 0) (qP 200) (qRi h f) 77 [.inr (.inl (some (11, 0))), .inl x1, .inl x2, .inl ((70 * x1) + x2), .inl ((10 * x1) + (M 88 0 ((70 * x1) + x2))), q_u] [.inl x113] (h, M) := fun x113 h114 => qWq (fun pc => Nat.beq pc 77 || Nat.beq pc 119) 300 (qAn h114 (fun h118 h119 => (have k117 : ∀ (x115 : Int), ((x115 = 0 ∨ x115 = 1) ∧ f x115 M) → qG (d + 0) (-1, fun _ => 0) (qP 200) (qRi h f) 119 [.inr (.inl (some (11, 0))), .inl x1, .inl x2, .inl ((70 * x1) + x2), .inl ((10 * x1) + (M 88 0 ((70 * x1) + x2))), .inl x113] [.inl x115] (h, M) := fun x115 h116 => qWq (fun pc => Nat.beq pc 77 || Nat.beq pc 119) 300 (And.intro ⟨rfl, h116.1⟩ ⟨x115, M, rfl, rfl, h116.2⟩); (And.intro (fun hc120 => (k117 0 (h119 0 (if_pos hc120).symm))) (fun hc120 => (And.intro (hS.1 _ _ _ rfl) (And.intro (h118 hc120).1 (And.intro (hS.1 _ _ _ rfl) (And.intro (h118 hc120).2.1 (And.intro (fun hc121 => (And.intro (hS.1 _ _ _ rfl) (And.intro ((h118 hc120).2.2 hc121).1 (And.intro (hS.1 _ _ _ rfl) (And.intro ((h118 hc120).2.2 hc121).2 (And.intro (fun hc122 => (k117 1 (h119 1 ((if_neg hc120).trans ((if_pos hc121).trans (if_pos hc122))).symm))) (fun hc122 => (k117 0 (h119 0 ((if_neg hc120).trans ((if_pos hc121).trans (if_neg hc122))).symm))))))))) (fun hc121 => (k117 0 (h119 0 ((if_neg hc120).trans (if_neg hc121)).symm))))))))))))); (And.intro (fun hc126 => (And.intro (hS.1 _ _ _ rfl) (And.intro (h124 hc126).1 (And.intro (fun hc127 => (And.intro (hS.1 _ _ _ rfl) (And.intro ((h124 hc126).2 hc127).1 (And.intro (hS.1 _ _ _ rfl) (And.intro ((h124 hc126).2 hc127).2.1 (And.intro (fun hc128 => (And.intro (hS.1 _ _ _ rfl) (And.intro (((h124 hc126).2 hc127).2.2 hc128).1 (And.intro (hS.1 _ _ _ rfl) (And.intro (((h124 hc126).2 hc127).2.2 hc128).2 (And.intro (fun hc129 => (k123 1 (h125 1 ((if_pos hc126).trans ((if_pos hc127).trans ((if_pos hc128).trans (if_pos hc129)))).symm))) (fun hc129 => (k123 0 (h125 0 ((if_pos hc126).trans ((if_pos hc127).trans ((if_pos hc128).trans (if_neg hc129)))).symm))))))))) (fun hc128 => (k123 0 (h125 0 ((if_pos hc126).trans ((if_pos hc127).trans (if_neg hc128))).symm))))))))) (fun hc127 => (k123 0 (h125 0 ((if_pos hc126).trans (if_neg hc127)).symm))))))) (fun hc126 => (k123 0 (h125 0 (if_neg hc126).symm))))))))))))))))))))))
theorem w201_61 {d : Nat} {h : qH} (hS : qSe h) {f : Int → qM → Prop} {x1 : Int} {u2 : qV} {x3 : Int} {x4 : Int} {x5 : Int} {u6 : qV} {M : qM} (H :
    ((x4 = 0 →
    f x3 M) ∧
    (¬ (x4 = 0) →
    ((x5 ≤ (M 11 0 74) →
      ((0 ≤ x5 ∧ x5 < 400) ∧ (((M 128 0 x5) = x1 →
        ((0 ≤ x5 ∧ x5 < 400) ∧ ((¬ ((M 130 0 x5) ≤ 0) → ((0 ≤ x5 ∧ x5 < 400) ∧ ((0 ≤ x5 ∧ x5 < 400) ∧ (qIn ((M 129 0 x5) + (M 130 0 x5)) ∧ (0 ≤ x1 ∧ x1 < 3))))) ∧
          (∀ x114 : Int, x114 = (if (M 130 0 x5) ≤ 0 then 0 else (if ((M 129 0 x5) + (M 130 0 x5)) < (M 119 0 x1) then 1 else 0)) → ((0 ≤ x5 ∧ x5 < 400) ∧ b201_136 d h f x1 (u2) x3 x114 x5 (M 129 0 x5) M))))) ∧
        (¬ ((M 128 0 x5) = x1) →
        f x3 M)))) ∧
      (¬ (x5 ≤ (M 11 0 74)) →
      f x3 M))))) : b201_61 d h f x1 u2 x3 x4 x5 u6 M :=
  qWq (fun pc => Nat.beq pc 61 || Nat.beq pc 125 || Nat.beq pc 136 || Nat.beq pc 176 || Nat.beq pc 208) 300 (qAn H (fun h101 h102 => And.intro (fun hc103 => ⟨x3, M, rfl, rfl, (h101 hc103)⟩) (fun hc103 => (qAn (h102 hc103) (fun h104 h105 => And.intro (fun hc106 => (And.intro (hS.1 _ _ _ rfl) (qAn (h104 hc106) (fun a107 h108 => And.intro a107 (qAn h108 (fun h109 h110 => And.intro (fun hc111 => (And.intro (hS.1 _ _ _ rfl) (qAn (h109 hc111) (fun a112 h113 => And.intro a112 (qAn h113 (fun h119 h120 => (have k118 : ∀ (x114 : Int), ((0 ≤ x5 ∧ x5 < 400) ∧ b201_136 d h f x1 (u2) x3 x114 x5 (M 129 0 x5) M) → qG (d + 3) (-1, fun _ => 0) (qP 201) (qRi h f) 125 [.inr (.inl (some (11, 0))), .inl x1, u2, .inl x3, .inl x4, .inl x5, u6] [.inl x114] (h, M) := fun x114 h115 => qWq (fun pc => Nat.beq pc 61 || Nat.beq pc 125 || Nat.beq pc 136 || Nat.beq pc 176 || Nat.beq pc 208) 300 (And.intro (hS.1 _ _ _ rfl) (qAn h115 (fun a116 h117 => And.intro a116 h117))); (And.intro (fun hc121 => (k118 0 (h120 0 (if_pos hc121).symm))) (fun hc121 => (And.intro (hS.1 _ _ _ rfl) (And.intro (h119 hc121).1 (And.intro (hS.1 _ _ _ rfl) (And.intro (h119 hc121).2.1 (And.intro (h119 hc121).2.2.1 (And.intro (hS.1 _ _ _ rfl) (And.intro (h119 hc121).2.2.2 (And.intro (fun hc122 => (k118 1 (h120 1 ((if_neg hc121).trans (if_pos hc122)).symm))) (fun hc122 => (k118 0 (h120 0 ((if_neg hc121).trans (if_neg hc122)).symm)))))))))))))))))))) (fun hc111 => ⟨x3, M, rfl, rfl, (h110 hc111)⟩))))))) (fun hc106 => ⟨x3, M, rfl, rfl, (h105 hc106)⟩))))))
theorem w201_136 {d : Nat} {h : qH} (hS : qSe h) {f : Int → qM → Prop} {x1 : Int} {u2 : qV} {x3 : Int} {x4 : Int} {x5 : Int} {x6 : Int} {M : qM} (H :
    ((x4 = 0 →
    b201_176 d h f x1 (u2) x3 x4 x5 (.inl x6) M) ∧
    (¬ (x4 = 0) →
    ((0 ≤ x5 ∧ x5 < 400) ∧ ((0 ≤ x5 ∧ x5 < 400) ∧ (qIn ((M 129 0 x5) + (M 130 0 x5)) ∧ ((x6 < ((M 129 0 x5) + (M 130 0 x5)) →
      e200 (d + 1) h x1 x6 M (fun v113 M114 => 
        (qIn (x6 + 1) ∧ b201_136 d h f x1 (u2) x3 v113 x5 (x6 + 1) M114))) ∧
      (¬ (x6 < ((M 129 0 x5) + (M 130 0 x5))) →
      b201_176 d h f x1 (u2) x3 x4 x5 (.inl x6) M)))))))) : b201_136 d h f x1 u2 x3 x4 x5 x6 M :=
  qWq (fun pc => Nat.beq pc 61 || Nat.beq pc 136 || Nat.beq pc 176 || Nat.beq pc 208) 300 (qAn H (fun h101 h102 => And.intro (fun hc103 => (h101 hc103)) (fun hc103 => (And.intro (hS.1 _ _ _ rfl) (qAn (h102 hc103) (fun a104 h105 => And.intro a104 (And.intro (hS.1 _ _ _ rfl) (qAn h105 (fun a106 h107 => And.intro a106 (qAn h107 (fun a108 h109 => And.intro a108 (qAn h109 (fun h110 h111 => And.intro (fun hc112 => (And.intro rfl (qEi.go (h110 hc112) (qLq d rfl) (fun v113 M114 h115 => (qAn h115 (fun a116 h117 => And.intro a116 h117)))))) (fun hc112 => (h111 hc112)))))))))))))))
theorem w201_176 {d : Nat} {h : qH} (hS : qSe h) {f : Int → qM → Prop} {x1 : Int} {u2 : qV} {x3 : Int} {x4 : Int} {x5 : Int} {u6 : qV} {M : qM} (H :
    ((x4 = 0 →
    b201_208 d h f x1 (u2) x3 (.inl x4) x5 (u6) M) ∧
    (¬ (x4 = 0) →
    ((0 ≤ x5 ∧ x5 < 400) ∧ ((0 ≤ x5 ∧ x5 < 400) ∧ e198 (d + 3) h x1 x3 (M 130 0 x5) (M 132 0 x5) M (fun v108 M109 => 
      ((v108 = 0 →
      b201_208 d h f x1 (u2) x3 (.inl x4) x5 (u6) M109) ∧
      (¬ (v108 = 0) →
      ((0 ≤ x5 ∧ x5 < 400) ∧ e197 (d + 3) h x1 x3 (M109 130 0 x5) M109 (fun v116 M117 => 
          (qIn (x5 + 1) ∧ b201_61 d h f x1 (u2) v116 1 (x5 + 1) (u6) M117))))))))))) : b201_176 d h f x1 u2 x3 x4 x5 u6 M :=
  qWq (fun pc => Nat.beq pc 61 || Nat.beq pc 136 || Nat.beq pc 176 || Nat.beq pc 208) 300 (qAn H (fun h101 h102 => And.intro (fun hc103 => (h101 hc103)) (fun hc103 => (And.intro (hS.1 _ _ _ rfl) (qAn (h102 hc103) (fun a104 h105 => And.intro a104 (And.intro (hS.1 _ _ _ rfl) (qAn h105 (fun a106 h107 => And.intro a106 (And.intro rfl (qEi.go h107 (qLq d rfl) (fun v108 M109 h110 => (qAn h110 (fun h111 h112 => And.intro (fun hc113 => (h111 hc113)) (fun hc113 => (And.intro (fun hc121 => absurd hc121 (by decide)) (fun _ => (And.intro (hS.1 _ _ _ rfl) (qAn (h112 hc113) (fun a114 h115 => And.intro a114 (And.intro rfl (qEi.go h115 (qLq d rfl) (fun v116 M117 h118 => (qAn h118 (fun a119 h120 => And.intro a119 h120)))))))))))))))))))))))))
theorem w201_208 {d : Nat} {h : qH} (hS : qSe h) {f : Int → qM → Prop} {x1 : Int} {u2 : qV} {x3 : Int} {u4 : qV} {x5 : Int} {u6 : qV} {M : qM} (H :
    (qIn (x5 + 1) ∧ b201_61 d h f x1 (u2) x3 0 (x5 + 1) (u6) M)) : b201_208 d h f x1 u2 x3 u4 x5 u6 M :=
  qWq (fun pc => Nat.beq pc 61 || Nat.beq pc 136 || Nat.beq pc 176 || Nat.beq pc 208) 300 (And.intro (fun _ => (qAn H (fun a101 h102 => And.intro a101 h102))) (fun hc103 => absurd (by decide) hc103))
theorem w201 {d : Nat} {h : qH} (hS : qSe h) {x1 : Int} {x2 : Int} {M : qM} {f : Int → qM → Prop} (H :
    ((¬ ((M 11 0 73) = 0) → ((M 11 0 75) = (M 11 0 1) → ((M 11 0 76) = (M 11 0 2) → ((0 ≤ x1 ∧ x1 < 3) ∧ (0 ≤ x1 ∧ x1 < 3))))) ∧
    (∀ x101 : Int, x101 = (if (M 11 0 73) = 0 then 0 else (if (M 11 0 75) = (M 11 0 1) then (if (M 11 0 76) = (M 11 0 2) then (if (M 118 0 x1) = (M 114 0 x1) then 1 else 0) else 0) else 0)) → ((0 ≤ x1 ∧ x1 < 3) ∧ b201_61 d h f x1 (.inl x2) x2 x101 (M 118 0 x1) (q_u) M)))) : e201 (d + 4) h x1 x2 M f :=
  qJ.body (Nat.le_of_ble_eq_true rfl) (qWq (fun pc => Nat.beq pc 51 || Nat.beq pc 61 || Nat.beq pc 136 || Nat.beq pc 176 || Nat.beq pc 208) 300 (qAn H (fun h106 h107 => (have k105 : ∀ (x101 : Int), ((0 ≤ x1 ∧ x1 < 3) ∧ b201_61 d h f x1 (.inl x2) x2 x101 (M 118 0 x1) (q_u) M) → qG (d + 3) (-1, fun _ => 0) (qP 201) (qRi h f) 51 [.inr (.inl (some (11, 0))), .inl x1, .inl x2, .inl x2, q_u, q_u, q_u] [.inl x101] (h, M) := fun x101 h102 => qWq (fun pc => Nat.beq pc 51 || Nat.beq pc 61 || Nat.beq pc 136 || Nat.beq pc 176 || Nat.beq pc 208) 300 (And.intro (hS.1 _ _ _ rfl) (qAn h102 (fun a103 h104 => And.intro a103 h104))); (And.intro (fun hc108 => (k105 0 (h107 0 (if_pos hc108).symm))) (fun hc108 => (And.intro (fun hc109 => (And.intro (fun hc110 => (And.intro (hS.1 _ _ _ rfl) (And.intro (((h106 hc108) hc109) hc110).1 (And.intro (hS.1 _ _ _ rfl) (And.intro (((h106 hc108) hc109) hc110).2 (And.intro (fun hc111 => (k105 1 (h107 1 ((if_neg hc108).trans ((if_pos hc109).trans ((if_pos hc110).trans (if_pos hc111)))).symm))) (fun hc111 => (k105 0 (h107 0 ((if_neg hc108).trans ((if_pos hc109).trans ((if_pos hc110).trans (if_neg hc111)))).symm))))))))) (fun hc110 => (k105 0 (h107 0 ((if_neg hc108).trans ((if_pos hc109).trans (if_neg hc110))).symm))))) (fun hc109 => (k105 0 (h107 0 ((if_neg hc108).trans (if_neg hc109)).symm))))))))))
theorem w202_37 {d : Nat} {h : qH} (hS : qSe h) {f : Int → qM → Prop} {x1 : Int} {u2 : qV} {x3 : Int} {u4 : qV} {M : qM} (H :
    e194 (d + 5) h x1 x3 M (fun v101 M102 => 
    ((v101 < 536870912 →
    b202_55 d h f x1 (u2) x3 (.inl v101) M102) ∧
    (¬ (v101 < 536870912) →
    f 0 M102)))) : b202_37 d h f x1 u2 x3 u4 M :=
  qWq (fun pc => Nat.beq pc 37 || Nat.beq pc 55) 300 (And.intro rfl (qEi.go H (qLq d rfl) (fun v101 M102 h103 => (qAn h103 (fun h104 h105 => And.intro (fun hc106 => (h104 hc106)) (fun hc106 => (And.intro ⟨rfl, (Or.inl rfl)⟩ ⟨0, M102, rfl, rfl, (h105 hc106)⟩)))))))
theorem w202_55 {d : Nat} {h : qH} (hS : qSe h) {f : Int → qM → Prop} {x1 : Int} {u2 : qV} {x3 : Int} {u4 : qV} {M : qM} (H :
    (0 ≤ x3 ∧ ((0 ≤ x1 ∧ x1 < 3) ∧ (((x3 / 300) < (M 87 0 x1) →
    e199 (d + 4) h x1 x3 M (fun v108 M109 => 
      b202_55 d h f x1 (u2) v108 (u4) M109)) ∧
    (¬ ((x3 / 300) < (M 87 0 x1)) →
    ((0 ≤ x1 ∧ x1 < 3) ∧ e189 (d + 1) h x3 M (fun v113 M114 => 
      e190 (d + 1) h x3 M114 (fun v116 M117 => 
      e186 (d + 2) h x1 v113 v116 1 M117 (fun v119 M120 => 
      (qIn (5 * v119) ∧ (qIn ((M 116 0 x1) + (5 * v119)) ∧ ((0 ≤ x1 ∧ x1 < 3) ∧ ∀ M126, M126 = qU M120 116 0 x1 ((M 116 0 x1) + (5 * v119)) → ((0 ≤ x1 ∧ x1 < 3) ∧ ∀ M129, M129 = qU M126 115 0 x1 (M126 11 0 58) → f 1 M129))))))))))))) : b202_55 d h f x1 u2 x3 u4 M :=
  qWq (fun pc => Nat.beq pc 37 || Nat.beq pc 55) 300 (qAn H (fun a101 h102 => And.intro ⟨a101, by decide⟩ (And.intro (hS.1 _ _ _ rfl) (qAn h102 (fun a103 h104 => And.intro a103 (qAn h104 (fun h105 h106 => And.intro (fun hc107 => (And.intro rfl (qEi.go (h105 hc107) (qLq d rfl) (fun v108 M109 h110 => h110)))) (fun hc107 => (And.intro (hS.1 _ _ _ rfl) (qAn (h106 hc107) (fun a111 h112 => And.intro a111 (And.intro rfl (qEi.go h112 (qLq d rfl) (fun v113 M114 h115 => (And.intro rfl (qEi.go h115 (qLq d rfl) (fun v116 M117 h118 => (And.intro rfl (qEi.go h118 (qLq d rfl) (fun v119 M120 h121 => (qAn h121 (fun a122 h123 => And.intro a122 (qAn h123 (fun a124 h125 => And.intro a124 (qAn h125 (fun a127 h128 => And.intro a127 (And.intro (hS.1 _ _ _ rfl) (qAn (h128 _ rfl) (fun a130 h131 => And.intro a130 (And.intro ⟨rfl, (Or.inr rfl)⟩ ⟨1, (qU (qU M120 116 0 x1 ((M 116 0 x1) + (5 * v119))) 115 0 x1 ((qU M120 116 0 x1 ((M 116 0 x1) + (5 * v119))) 11 0 58)), rfl, rfl, (h131 _ rfl)⟩))))))))))))))))))))))))))))))
theorem w202 {d : Nat} {h : qH} (hS : qSe h) {x1 : Int} {x2 : Int} {M : qM} {f : Int → qM → Prop} (H :
    e181 (d + 2) h x1 M (fun M102 => 
    (qIn ((M102 11 0 58) + 1) ∧ ((0 ≤ x1 ∧ x1 < 3) ∧ ∀ M106, M106 = qU M102 114 0 x1 ((M102 11 0 58) + 1) → ((0 ≤ x1 ∧ x1 < 3) ∧ ∀ M109, M109 = qU M106 116 0 x1 0 → ((x2 = 0 →
    b202_37 d h f x1 (.inl x2) 0 (q_u) M109) ∧
    (¬ (x2 = 0) →
    e201 (d + 4) h x1 0 M109 (fun v115 M116 => 
      b202_37 d h f x1 (.inl x2) v115 (q_u) M116)))))))) : e202 (d + 6) h x1 x2 M f :=
  qJ.body (Nat.le_of_ble_eq_true rfl) (qWq (fun pc => Nat.beq pc 37 || Nat.beq pc 55) 300 (And.intro rfl (qEv.go H (qLq d rfl) (fun M102 h103 => (And.intro (hS.1 _ _ _ rfl) (qAn h103 (fun a104 h105 => And.intro a104 (qAn h105 (fun a107 h108 => And.intro a107 (And.intro (hS.1 _ _ _ rfl) (qAn (h108 _ rfl) (fun a110 h111 => And.intro a110 (qAn (h111 _ rfl) (fun h112 h113 => And.intro (fun hc114 => (h112 hc114)) (fun hc114 => (And.intro rfl (qEi.go (h113 hc114) (qLq d rfl) (fun v115 M116 h117 => h117))))))))))))))))))
theorem w203_4 {d : Nat} {h : qH} (hS : qSe h) {f : Int → qM → Prop} {x1 : Int} {x2 : Int} {M : qM} (H :
    ((x2 < 30 →
    ((0 ≤ x2 ∧ x2 < 30) ∧ (∀ x106 : Int, x106 = (if (M 65 0 x2) = 0 then 0 else 1) → (qIn (x1 + x106) ∧ (qIn (x2 + 1) ∧ b203_4 d h f (x1 + x106) (x2 + 1) M))))) ∧
    (¬ (x2 < 30) →
    f x1 M))) : b203_4 d h f x1 x2 M :=
  qWq (fun pc => Nat.beq pc 4 || Nat.beq pc 25) 300 (qAn H (fun h101 h102 => And.intro (fun hc103 => (And.intro (hS.1 _ _ _ rfl) (qAn (h101 hc103) (fun a104 h105 => And.intro a104 (have k112 : ∀ (x106 : Int), (qIn (x1 + x106) ∧ (qIn (x2 + 1) ∧ b203_4 d h f (x1 + x106) (x2 + 1) M)) → qG (d + 0) (-1, fun _ => 0) (qP 203) (qRi h f) 25 [.inr (.inl (some (11, 0))), .inl x1, .inl x2] [.inl x106, .inl x1] (h, M) := fun x106 h107 => qWq (fun pc => Nat.beq pc 4 || Nat.beq pc 25) 300 (qAn h107 (fun a108 h109 => And.intro a108 (qAn h109 (fun a110 h111 => And.intro a110 h111)))); (And.intro (fun hc113 => (k112 0 (h105 0 (if_pos hc113).symm))) (fun hc113 => (k112 1 (h105 1 (if_neg hc113).symm))))))))) (fun hc103 => ⟨x1, M, rfl, rfl, (h102 hc103)⟩)))
theorem w203 {d : Nat} {h : qH} (hS : qSe h)  {M : qM} {f : Int → qM → Prop} (H :
    b203_4 d h f 0 0 M) : e203 (d + 1) h  M f :=
  qJ.body (Nat.le_of_ble_eq_true rfl) (qWq (fun pc => Nat.beq pc 4) 300 H)
theorem w204_24 {d : Nat} {h : qH} (hS : qSe h) {f : Int → qM → Prop} {x1 : Int} {x2 : Int} {x3 : Int} {u4 : qV} {u5 : qV} {M : qM} (H :
    (0 ≤ x2 ∧ (qIn (x2 + (x2 % 2)) ∧ ((x3 < (x2 + (x2 % 2)) →
    e196 (d + 2) h 3 M (fun M109 => 
      (qIn (x3 + 1) ∧ b204_24 d h f x1 x2 (x3 + 1) (u4) (u5) M109))) ∧
    (¬ (x3 < (x2 + (x2 % 2))) →
    b204_49 d h f x1 (.inl x2) 1 0 (u5) M))))) : b204_24 d h f x1 x2 x3 u4 u5 M :=
  qWq (fun pc => Nat.beq pc 24 || Nat.beq pc 49 || Nat.beq pc 106 || Nat.beq pc 176 || Nat.beq pc 217) 300 (qAn H (fun a101 h102 => And.intro ⟨a101, by decide⟩ (qAn h102 (fun a103 h104 => And.intro a103 (qAn h104 (fun h105 h106 => And.intro (fun hc107 => (And.intro rfl (qEv.go (h105 hc107) (qLq d rfl) (fun M109 h110 => (qAn h110 (fun a111 h112 => And.intro a111 h112)))))) (fun hc107 => (h106 hc107))))))))
theorem w204_49 {d : Nat} {h : qH} (hS : qSe h) {f : Int → qM → Prop} {x1 : Int} {u2 : qV} {x3 : Int} {x4 : Int} {u5 : qV} {M : qM} (H :
    ((x4 < 3 →
    ((0 ≤ x4 ∧ x4 < 3) ∧ ∀ M104, M104 = qU M 114 0 x4 (-1) → ((0 ≤ x4 ∧ x4 < 3) ∧ ∀ M107, M107 = qU M104 115 0 x4 (-1) → ((0 ≤ x4 ∧ x4 < 3) ∧ ∀ M110, M110 = qU M107 87 0 x4 0 → ((0 ≤ x4 ∧ x4 < 3) ∧ ∀ M113, M113 = qU M110 116 0 x4 0 → ((0 ≤ x4 ∧ x4 < 3) ∧ ∀ M116, M116 = qU M113 94 0 x4 0 → ((0 ≤ x4 ∧ x4 < 3) ∧ ∀ M119, M119 = qU M116 96 0 x4 0 → b204_106 d h f x1 (u2) x3 x4 0 M119))))))) ∧
    (¬ (x4 < 3) →
    b204_176 d h f x1 (u2) x3 0 (u5) M))) : b204_49 d h f x1 u2 x3 x4 u5 M :=
  qWq (fun pc => Nat.beq pc 24 || Nat.beq pc 49 || Nat.beq pc 106 || Nat.beq pc 176 || Nat.beq pc 217) 300 (qAn H (fun h101 h102 => And.intro (fun hc103 => (And.intro (hS.1 _ _ _ rfl) (qAn (h101 hc103) (fun a105 h106 => And.intro a105 (And.intro (hS.1 _ _ _ rfl) (qAn (h106 _ rfl) (fun a108 h109 => And.intro a108 (And.intro (hS.1 _ _ _ rfl) (qAn (h109 _ rfl) (fun a111 h112 => And.intro a111 (And.intro (hS.1 _ _ _ rfl) (qAn (h112 _ rfl) (fun a114 h115 => And.intro a114 (And.intro (hS.1 _ _ _ rfl) (qAn (h115 _ rfl) (fun a117 h118 => And.intro a117 (And.intro (hS.1 _ _ _ rfl) (qAn (h118 _ rfl) (fun a120 h121 => And.intro a120 (h121 _ rfl)))))))))))))))))))) (fun hc103 => (h102 hc103))))
theorem w204_106 {d : Nat} {h : qH} (hS : qSe h) {f : Int → qM → Prop} {x1 : Int} {u2 : qV} {x3 : Int} {x4 : Int} {x5 : Int} {M : qM} (H :
    ((0 ≤ x4 ∧ x4 < 3) ∧ ((x5 < (M 64 0 x4) →
    (qIn (10 * x4) ∧ (qIn ((10 * x4) + x5) ∧ ((0 ≤ ((10 * x4) + x5) ∧ ((10 * x4) + x5) < 30) ∧ (((M 65 0 ((10 * x4) + x5)) = 0 →
      (qIn (10 * x4) ∧ (qIn ((10 * x4) + x5) ∧ e176 (d + 2) h ((10 * x4) + x5) M (fun v119 M120 => 
        ((v119 = 0 →
        (qIn (10 * x4) ∧ (qIn ((10 * x4) + x5) ∧ e178 (d + 2) h ((10 * x4) + x5) M120 (fun M130 => 
          (qIn (x5 + 1) ∧ b204_106 d h f x1 (u2) x3 x4 (x5 + 1) M130))))) ∧
        (¬ (v119 = 0) →
        (qIn (x5 + 1) ∧ b204_106 d h f x1 (u2) x3 x4 (x5 + 1) M120))))))) ∧
      (¬ ((M 65 0 ((10 * x4) + x5)) = 0) →
      (qIn (x5 + 1) ∧ b204_106 d h f x1 (u2) x3 x4 (x5 + 1) M))))))) ∧
    (¬ (x5 < (M 64 0 x4)) →
    (qIn (x4 + 1) ∧ b204_49 d h f x1 (u2) x3 (x4 + 1) (.inl x5) M))))) : b204_106 d h f x1 u2 x3 x4 x5 M :=
  qWq (fun pc => Nat.beq pc 24 || Nat.beq pc 49 || Nat.beq pc 106 || Nat.beq pc 176 || Nat.beq pc 217) 300 (And.intro (hS.1 _ _ _ rfl) (qAn H (fun a101 h102 => And.intro a101 (qAn h102 (fun h103 h104 => And.intro (fun hc105 => (And.intro (hS.1 _ _ _ rfl) (qAn (h103 hc105) (fun a106 h107 => And.intro a106 (qAn h107 (fun a108 h109 => And.intro a108 (qAn h109 (fun a110 h111 => And.intro a110 (qAn h111 (fun h112 h113 => And.intro (fun hc114 => (qAn (h112 hc114) (fun a115 h116 => And.intro a115 (qAn h116 (fun a117 h118 => And.intro a117 (And.intro rfl (qEi.go h118 (qLq d rfl) (fun v119 M120 h121 => (qAn h121 (fun h122 h123 => And.intro (fun hc124 => (qAn (h122 hc124) (fun a125 h126 => And.intro a125 (qAn h126 (fun a127 h128 => And.intro a127 (And.intro rfl (qEv.go h128 (qLq d rfl) (fun M130 h131 => (qAn h131 (fun a132 h133 => And.intro a132 h133)))))))))) (fun hc124 => (qAn (h123 hc124) (fun a134 h135 => And.intro a134 h135))))))))))))) (fun hc114 => (qAn (h113 hc114) (fun a136 h137 => And.intro a136 h137))))))))))))) (fun hc105 => (qAn (h104 hc105) (fun a138 h139 => And.intro a138 h139))))))))
theorem w204_176 {d : Nat} {h : qH} (hS : qSe h) {f : Int → qM → Prop} {x1 : Int} {u2 : qV} {x3 : Int} {x4 : Int} {u5 : qV} {M : qM} (H :
    ((x4 < 3 →
    ((x3 = 0 →
      ((x3 = 0 ∨ x3 = 1) ∧ f x3 M)) ∧
      (¬ (x3 = 0) →
      ((0 ≤ x4 ∧ x4 < 3) ∧ (((M 64 0 x4) ≤ 0 →
        (qIn (x4 + 1) ∧ b204_176 d h f x1 (u2) x3 (x4 + 1) (u5) M)) ∧
        (¬ ((M 64 0 x4) ≤ 0) →
        e180 (d + 3) h x4 M (fun M115 => 
          (0 ≤ (M115 11 0 58) ∧ ((((M115 11 0 58) % 2) = 1 →
          e196 (d + 2) h 4 M115 (fun M123 => 
            b204_217 d h f x1 (u2) (.inl x3) x4 (u5) M123)) ∧
          (¬ (((M115 11 0 58) % 2) = 1) →
          b204_217 d h f x1 (u2) (.inl x3) x4 (u5) M115)))))))))) ∧
    (¬ (x4 < 3) →
    ((x3 = 0 ∨ x3 = 1) ∧ f x3 M)))) : b204_176 d h f x1 u2 x3 x4 u5 M :=
  qWq (fun pc => Nat.beq pc 24 || Nat.beq pc 49 || Nat.beq pc 106 || Nat.beq pc 176 || Nat.beq pc 217) 300 (qAn H (fun h101 h102 => And.intro (fun hc103 => (qAn (h101 hc103) (fun h104 h105 => And.intro (fun hc106 => (And.intro ⟨rfl, (h104 hc106).1⟩ ⟨x3, M, rfl, rfl, (h104 hc106).2⟩)) (fun hc106 => (And.intro (hS.1 _ _ _ rfl) (qAn (h105 hc106) (fun a107 h108 => And.intro a107 (qAn h108 (fun h109 h110 => And.intro (fun hc111 => (qAn (h109 hc111) (fun a112 h113 => And.intro a112 h113))) (fun hc111 => (And.intro rfl (qEv.go (h110 hc111) (qLq d rfl) (fun M115 h116 => (qAn h116 (fun a117 h118 => And.intro ⟨a117, by decide⟩ (qAn h118 (fun h119 h120 => And.intro (fun hc121 => (And.intro rfl (qEv.go (h119 hc121) (qLq d rfl) (fun M123 h124 => h124)))) (fun hc121 => (h120 hc121))))))))))))))))))) (fun hc103 => (And.intro ⟨rfl, (h102 hc103).1⟩ ⟨x3, M, rfl, rfl, (h102 hc103).2⟩))))
theorem w204_217 {d : Nat} {h : qH} (hS : qSe h) {f : Int → qM → Prop} {x1 : Int} {u2 : qV} {u3 : qV} {x4 : Int} {u5 : qV} {M : qM} (H :
    e202 (d + 6) h x4 x1 M (fun v101 M102 => 
    (qIn (x4 + 1) ∧ b204_176 d h f x1 (u2) v101 (x4 + 1) (u5) M102))) : b204_217 d h f x1 u2 u3 x4 u5 M :=
  qWq (fun pc => Nat.beq pc 24 || Nat.beq pc 49 || Nat.beq pc 106 || Nat.beq pc 176 || Nat.beq pc 217) 300 (And.intro rfl (qEi.go H (qLq d rfl) (fun v101 M102 h103 => (qAn h103 (fun a104 h105 => And.intro a104 h105)))))
theorem w204 {d : Nat} {h : qH} (hS : qSe h) {x1 : Int} {M : qM} {f : Int → qM → Prop} (H :
    (∀ M101, M101 = qU M 11 0 58 0 → e203 (d + 1) h  M101 (fun v102 M103 => 
    (qIn (v102 + (M103 11 0 2)) ∧ (qIn ((v102 + (M103 11 0 2)) - 1) ∧ ((0 ≤ ((v102 + (M103 11 0 2)) - 1) ∧ 0 < (M103 11 0 2)) ∧ b204_24 d h f x1 (((v102 + (M103 11 0 2)) - 1) / (M103 11 0 2)) 0 (q_u) (q_u) M103)))))) : e204 (d + 7) h x1 M f :=
  qJ.body (Nat.le_of_ble_eq_true rfl) (qWq (fun pc => Nat.beq pc 24 || Nat.beq pc 49 || Nat.beq pc 106 || Nat.beq pc 176 || Nat.beq pc 217) 300 (And.intro rfl (qEi.go (H _ rfl) (qLq d rfl) (fun v102 M103 h104 => (qAn h104 (fun a105 h106 => And.intro a105 (qAn h106 (fun a107 h108 => And.intro a107 (qAn h108 (fun a109 h110 => And.intro a109 h110))))))))))
theorem w205 {d : Nat} {h : qH} (hS : qSe h) {x1 : Int} {M : qM} {f : Int → qM → Prop} (H :
    (0 ≤ x1 ∧ (0 ≤ x1 ∧ ((0 ≤ (x1 / 20) ∧ (x1 / 20) < 30) ∧ (∀ x107 : Int, x107 = (if (x1 % 20) < (M 67 0 (x1 / 20)) then 1 else 0) → ((x107 = 0 ∨ x107 = 1) ∧ f x107 M)))))) : e205 (d + 1) h x1 M f :=
  qJ.body (Nat.le_of_ble_eq_true rfl) (qWq (fun pc => Nat.beq pc 21) 300 (qAn H (fun a101 h102 => And.intro ⟨a101, by decide⟩ (And.intro (hS.1 _ _ _ rfl) (qAn h102 (fun a103 h104 => And.intro ⟨a103, by decide⟩ (qAn h104 (fun a105 h106 => And.intro a105 (have k109 : ∀ (x107 : Int), ((x107 = 0 ∨ x107 = 1) ∧ f x107 M) → qG (d + 0) (-1, fun _ => 0) (qP 205) (qRi h f) 21 [.inr (.inl (some (11, 0))), .inl x1] [.inl x107] (h, M) := fun x107 h108 => qWq (fun pc => Nat.beq pc 21) 300 (And.intro ⟨rfl, h108.1⟩ ⟨x107, M, rfl, rfl, h108.2⟩); (And.intro (fun hc110 => (k109 1 (h106 1 (if_pos hc110).symm))) (fun hc110 => (k109 0 (h106 0 (if_neg hc110).symm)))))))))))))
