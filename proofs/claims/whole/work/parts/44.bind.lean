/-! ===== reading rules for simp, in front of what follows (text written by wip/whole/gen_bind.py) ===== -/
theorem bs {α β : Type} {x : Option α} {v : α} (h : x = some v) (g : α → Option β) : x.bind g = g v := by rw [h]; rfl
/-- the class: objects -/
theorem bOC {P : Nat → Nat → Option Nat} (hP : GP P) {β : Type} (I : Nat → Nat → Int32) (J : Nat → Nat → Int64) :
    (∀ f (g : Int32 → Option β), (xgI (mm P I J) 0 11 f).bind g = g (I 0 f)) ∧
    (∀ f v (g : xM → Option β), (xpI (mm P I J) 0 11 f v).bind g = g (mm P (xu I 0 f v) J)) ∧
    (∀ (g : Unit → Option β), (xck (mm P I J) 0 11).bind g = g ()) ∧
    (∀ (g : Nat → Option β), (xgP (mm P I J) 0 11 1).bind g = g 1) ∧
    (∀ (g : Nat → Option β), (xgP (mm P I J) 0 11 2).bind g = g 14) ∧
    (∀ (g : Nat → Option β), (xgP (mm P I J) 0 11 3).bind g = g 21) ∧
    (∀ (g : Nat → Option β), (xgP (mm P I J) 0 11 4).bind g = g 25) ∧
    (∀ (g : Nat → Option β), (xgP (mm P I J) 0 11 5).bind g = g 29) ∧
    (∀ (g : Nat → Option β), (xgP (mm P I J) 0 11 6).bind g = g 35) ∧
    (∀ (g : Nat → Option β), (xgP (mm P I J) 0 11 7).bind g = g 81) ∧
    (∀ (g : Nat → Option β), (xgP (mm P I J) 0 11 8).bind g = g 90) ∧
    (∀ (g : Nat → Option β), (xgP (mm P I J) 0 11 9).bind g = g 91) ∧
    (∀ (g : Nat → Option β), (xgP (mm P I J) 0 11 11).bind g = g 114) ∧
    (∀ (g : Nat → Option β), (xgP (mm P I J) 0 11 12).bind g = g 120) ∧
    (∀ (g : Nat → Option β), (xgP (mm P I J) 0 11 13).bind g = g 122) ∧
    (∀ (g : Nat → Option β), (xgP (mm P I J) 0 11 14).bind g = g 124) ∧
    (∀ (g : Nat → Option β), (xgP (mm P I J) 0 11 15).bind g = g 125) ∧
    (∀ f (g : Int32 → Option β), (xgI (mm P I J) 14 3 f).bind g = g (I 14 f)) ∧
    (∀ f v (g : xM → Option β), (xpI (mm P I J) 14 3 f v).bind g = g (mm P (xu I 14 f v) J)) ∧
    (∀ (g : Unit → Option β), (xck (mm P I J) 14 3).bind g = g ()) ∧
    (∀ (g : Nat → Option β), (xgP (mm P I J) 14 3 12).bind g = g 15) ∧
    (∀ (g : Nat → Option β), (xgP (mm P I J) 14 3 13).bind g = g 16) ∧
    (∀ (g : Nat → Option β), (xgP (mm P I J) 14 3 14).bind g = g 17) ∧
    (∀ (g : Nat → Option β), (xgP (mm P I J) 14 3 15).bind g = g 18) ∧
    (∀ (g : Nat → Option β), (xgP (mm P I J) 14 3 16).bind g = g 19) ∧
    (∀ (g : Nat → Option β), (xgP (mm P I J) 14 3 17).bind g = g 20) ∧
    (∀ f (g : Int32 → Option β), (xgI (mm P I J) 21 0 f).bind g = g (I 21 f)) ∧
    (∀ f v (g : xM → Option β), (xpI (mm P I J) 21 0 f v).bind g = g (mm P (xu I 21 f v) J)) ∧
    (∀ (g : Unit → Option β), (xck (mm P I J) 21 0).bind g = g ()) ∧
    (∀ (g : Nat → Option β), (xgP (mm P I J) 21 0 0).bind g = g 22) ∧
    (∀ (g : Nat → Option β), (xgP (mm P I J) 21 0 1).bind g = g 23) ∧
    (∀ (g : Nat → Option β), (xgP (mm P I J) 21 0 2).bind g = g 24) ∧
    (∀ f (g : Int32 → Option β), (xgI (mm P I J) 25 0 f).bind g = g (I 25 f)) ∧
    (∀ f v (g : xM → Option β), (xpI (mm P I J) 25 0 f v).bind g = g (mm P (xu I 25 f v) J)) ∧
    (∀ (g : Unit → Option β), (xck (mm P I J) 25 0).bind g = g ()) ∧
    (∀ (g : Nat → Option β), (xgP (mm P I J) 25 0 0).bind g = g 26) ∧
    (∀ (g : Nat → Option β), (xgP (mm P I J) 25 0 1).bind g = g 27) ∧
    (∀ (g : Nat → Option β), (xgP (mm P I J) 25 0 2).bind g = g 28) ∧
    (∀ f (g : Int32 → Option β), (xgI (mm P I J) 29 8 f).bind g = g (I 29 f)) ∧
    (∀ f v (g : xM → Option β), (xpI (mm P I J) 29 8 f v).bind g = g (mm P (xu I 29 f v) J)) ∧
    (∀ (g : Unit → Option β), (xck (mm P I J) 29 8).bind g = g ()) ∧
    (∀ (g : Nat → Option β), (xgP (mm P I J) 29 8 0).bind g = g 30) ∧
    (∀ (g : Nat → Option β), (xgP (mm P I J) 29 8 1).bind g = g 33) ∧
    (∀ (g : Nat → Option β), (xgP (mm P I J) 29 8 2).bind g = g 34) ∧
    (∀ f (g : Int32 → Option β), (xgI (mm P I J) 30 4 f).bind g = g (I 30 f)) ∧
    (∀ f v (g : xM → Option β), (xpI (mm P I J) 30 4 f v).bind g = g (mm P (xu I 30 f v) J)) ∧
    (∀ (g : Unit → Option β), (xck (mm P I J) 30 4).bind g = g ()) ∧
    (∀ (g : Nat → Option β), (xgP (mm P I J) 30 4 0).bind g = g 31) ∧
    (∀ (g : Nat → Option β), (xgP (mm P I J) 30 4 1).bind g = g 32) ∧
    (∀ f (g : Int32 → Option β), (xgI (mm P I J) 35 5 f).bind g = g (I 35 f)) ∧
    (∀ f v (g : xM → Option β), (xpI (mm P I J) 35 5 f v).bind g = g (mm P (xu I 35 f v) J)) ∧
    (∀ (g : Unit → Option β), (xck (mm P I J) 35 5).bind g = g ()) ∧
    (∀ (g : Nat → Option β), (xgP (mm P I J) 35 5 2).bind g = g 36) :=
  ⟨fun f g => bs (m_gI (by decide +kernel) I J f) g,
   fun f v g => bs (m_pI (by decide +kernel) I J f v) g,
   fun g => bs (m_ck (by decide +kernel) I J) g,
   fun g => bs (m_gP hP (by decide +kernel) (by decide +kernel) I J) g,
   fun g => bs (m_gP hP (by decide +kernel) (by decide +kernel) I J) g,
   fun g => bs (m_gP hP (by decide +kernel) (by decide +kernel) I J) g,
   fun g => bs (m_gP hP (by decide +kernel) (by decide +kernel) I J) g,
   fun g => bs (m_gP hP (by decide +kernel) (by decide +kernel) I J) g,
   fun g => bs (m_gP hP (by decide +kernel) (by decide +kernel) I J) g,
   fun g => bs (m_gP hP (by decide +kernel) (by decide +kernel) I J) g,
   fun g => bs (m_gP hP (by decide +kernel) (by decide +kernel) I J) g,
   fun g => bs (m_gP hP (by decide +kernel) (by decide +kernel) I J) g,
   fun g => bs (m_gP hP (by decide +kernel) (by decide +kernel) I J) g,
   fun g => bs (m_gP hP (by decide +kernel) (by decide +kernel) I J) g,
   fun g => bs (m_gP hP (by decide +kernel) (by decide +kernel) I J) g,
   fun g => bs (m_gP hP (by decide +kernel) (by decide +kernel) I J) g,
   fun g => bs (m_gP hP (by decide +kernel) (by decide +kernel) I J) g,
   fun f g => bs (m_gI (by decide +kernel) I J f) g,
   fun f v g => bs (m_pI (by decide +kernel) I J f v) g,
   fun g => bs (m_ck (by decide +kernel) I J) g,
   fun g => bs (m_gP hP (by decide +kernel) (by decide +kernel) I J) g,
   fun g => bs (m_gP hP (by decide +kernel) (by decide +kernel) I J) g,
   fun g => bs (m_gP hP (by decide +kernel) (by decide +kernel) I J) g,
   fun g => bs (m_gP hP (by decide +kernel) (by decide +kernel) I J) g,
   fun g => bs (m_gP hP (by decide +kernel) (by decide +kernel) I J) g,
   fun g => bs (m_gP hP (by decide +kernel) (by decide +kernel) I J) g,
   fun f g => bs (m_gI (by decide +kernel) I J f) g,
   fun f v g => bs (m_pI (by decide +kernel) I J f v) g,
   fun g => bs (m_ck (by decide +kernel) I J) g,
   fun g => bs (m_gP hP (by decide +kernel) (by decide +kernel) I J) g,
   fun g => bs (m_gP hP (by decide +kernel) (by decide +kernel) I J) g,
   fun g => bs (m_gP hP (by decide +kernel) (by decide +kernel) I J) g,
   fun f g => bs (m_gI (by decide +kernel) I J f) g,
   fun f v g => bs (m_pI (by decide +kernel) I J f v) g,
   fun g => bs (m_ck (by decide +kernel) I J) g,
   fun g => bs (m_gP hP (by decide +kernel) (by decide +kernel) I J) g,
   fun g => bs (m_gP hP (by decide +kernel) (by decide +kernel) I J) g,
   fun g => bs (m_gP hP (by decide +kernel) (by decide +kernel) I J) g,
   fun f g => bs (m_gI (by decide +kernel) I J f) g,
   fun f v g => bs (m_pI (by decide +kernel) I J f v) g,
   fun g => bs (m_ck (by decide +kernel) I J) g,
   fun g => bs (m_gP hP (by decide +kernel) (by decide +kernel) I J) g,
   fun g => bs (m_gP hP (by decide +kernel) (by decide +kernel) I J) g,
   fun g => bs (m_gP hP (by decide +kernel) (by decide +kernel) I J) g,
   fun f g => bs (m_gI (by decide +kernel) I J f) g,
   fun f v g => bs (m_pI (by decide +kernel) I J f v) g,
   fun g => bs (m_ck (by decide +kernel) I J) g,
   fun g => bs (m_gP hP (by decide +kernel) (by decide +kernel) I J) g,
   fun g => bs (m_gP hP (by decide +kernel) (by decide +kernel) I J) g,
   fun f g => bs (m_gI (by decide +kernel) I J f) g,
   fun f v g => bs (m_pI (by decide +kernel) I J f v) g,
   fun g => bs (m_ck (by decide +kernel) I J) g,
   fun g => bs (m_gP hP (by decide +kernel) (by decide +kernel) I J) g⟩
/-- dike, planner, sheets, gales -/
theorem bOX {P : Nat → Nat → Option Nat} (hP : GP P) {β : Type} (I : Nat → Nat → Int32) (J : Nat → Nat → Int64) :
    (∀ f (g : Int32 → Option β), (xgI (mm P I J) 114 1 f).bind g = g (I 114 f)) ∧
    (∀ f v (g : xM → Option β), (xpI (mm P I J) 114 1 f v).bind g = g (mm P (xu I 114 f v) J)) ∧
    (∀ (g : Unit → Option β), (xck (mm P I J) 114 1).bind g = g ()) ∧
    (∀ (g : Nat → Option β), (xgP (mm P I J) 114 1 0).bind g = g 115) ∧
    (∀ (g : Nat → Option β), (xgP (mm P I J) 114 1 1).bind g = g 116) ∧
    (∀ (g : Nat → Option β), (xgP (mm P I J) 114 1 2).bind g = g 117) ∧
    (∀ (g : Nat → Option β), (xgP (mm P I J) 114 1 3).bind g = g 118) ∧
    (∀ (g : Nat → Option β), (xgP (mm P I J) 114 1 4).bind g = g 119) ∧
    (∀ f (g : Int32 → Option β), (xgI (mm P I J) 120 6 f).bind g = g (I 120 f)) ∧
    (∀ f v (g : xM → Option β), (xpI (mm P I J) 120 6 f v).bind g = g (mm P (xu I 120 f v) J)) ∧
    (∀ (g : Unit → Option β), (xck (mm P I J) 120 6).bind g = g ()) ∧
    (∀ (g : Nat → Option β), (xgP (mm P I J) 120 6 0).bind g = g 121) ∧
    (∀ f (g : Int32 → Option β), (xgI (mm P I J) 122 9 f).bind g = g (I 122 f)) ∧
    (∀ f v (g : xM → Option β), (xpI (mm P I J) 122 9 f v).bind g = g (mm P (xu I 122 f v) J)) ∧
    (∀ (g : Unit → Option β), (xck (mm P I J) 122 9).bind g = g ()) ∧
    (∀ (g : Nat → Option β), (xgP (mm P I J) 122 9 0).bind g = g 123) ∧
    (∀ f (g : Int32 → Option β), (xgI (mm P I J) 125 2 f).bind g = g (I 125 f)) ∧
    (∀ f v (g : xM → Option β), (xpI (mm P I J) 125 2 f v).bind g = g (mm P (xu I 125 f v) J)) ∧
    (∀ (g : Unit → Option β), (xck (mm P I J) 125 2).bind g = g ()) ∧
    (∀ (g : Nat → Option β), (xgP (mm P I J) 125 2 0).bind g = g 126) ∧
    (∀ (g : Nat → Option β), (xgP (mm P I J) 125 2 1).bind g = g 127) :=
  ⟨fun f g => bs (m_gI (by decide +kernel) I J f) g,
   fun f v g => bs (m_pI (by decide +kernel) I J f v) g,
   fun g => bs (m_ck (by decide +kernel) I J) g,
   fun g => bs (m_gP hP (by decide +kernel) (by decide +kernel) I J) g,
   fun g => bs (m_gP hP (by decide +kernel) (by decide +kernel) I J) g,
   fun g => bs (m_gP hP (by decide +kernel) (by decide +kernel) I J) g,
   fun g => bs (m_gP hP (by decide +kernel) (by decide +kernel) I J) g,
   fun g => bs (m_gP hP (by decide +kernel) (by decide +kernel) I J) g,
   fun f g => bs (m_gI (by decide +kernel) I J f) g,
   fun f v g => bs (m_pI (by decide +kernel) I J f v) g,
   fun g => bs (m_ck (by decide +kernel) I J) g,
   fun g => bs (m_gP hP (by decide +kernel) (by decide +kernel) I J) g,
   fun f g => bs (m_gI (by decide +kernel) I J f) g,
   fun f v g => bs (m_pI (by decide +kernel) I J f v) g,
   fun g => bs (m_ck (by decide +kernel) I J) g,
   fun g => bs (m_gP hP (by decide +kernel) (by decide +kernel) I J) g,
   fun f g => bs (m_gI (by decide +kernel) I J f) g,
   fun f v g => bs (m_pI (by decide +kernel) I J f v) g,
   fun g => bs (m_ck (by decide +kernel) I J) g,
   fun g => bs (m_gP hP (by decide +kernel) (by decide +kernel) I J) g,
   fun g => bs (m_gP hP (by decide +kernel) (by decide +kernel) I J) g⟩
/-- the model: object -/
theorem bOM {P : Nat → Nat → Option Nat} (hP : GP P) {β : Type} (I : Nat → Nat → Int32) (J : Nat → Nat → Int64) :
    (∀ f (g : Int32 → Option β), (xgI (mm P I J) 164 12 f).bind g = g (I 164 f)) ∧
    (∀ f v (g : xM → Option β), (xpI (mm P I J) 164 12 f v).bind g = g (mm P (xu I 164 f v) J)) ∧
    (∀ (g : Unit → Option β), (xck (mm P I J) 164 12).bind g = g ()) ∧
    (∀ (g : Nat → Option β), (xgP (mm P I J) 164 12 1).bind g = g 165) ∧
    (∀ (g : Nat → Option β), (xgP (mm P I J) 164 12 2).bind g = g 166) ∧
    (∀ (g : Nat → Option β), (xgP (mm P I J) 164 12 3).bind g = g 167) ∧
    (∀ (g : Nat → Option β), (xgP (mm P I J) 164 12 4).bind g = g 168) ∧
    (∀ (g : Nat → Option β), (xgP (mm P I J) 164 12 16).bind g = g 169) ∧
    (∀ (g : Nat → Option β), (xgP (mm P I J) 164 12 17).bind g = g 170) ∧
    (∀ (g : Nat → Option β), (xgP (mm P I J) 164 12 18).bind g = g 171) ∧
    (∀ (g : Nat → Option β), (xgP (mm P I J) 164 12 19).bind g = g 172) ∧
    (∀ (g : Nat → Option β), (xgP (mm P I J) 164 12 22).bind g = g 173) ∧
    (∀ (g : Nat → Option β), (xgP (mm P I J) 164 12 25).bind g = g 174) ∧
    (∀ (g : Nat → Option β), (xgP (mm P I J) 164 12 26).bind g = g 175) ∧
    (∀ (g : Nat → Option β), (xgP (mm P I J) 164 12 27).bind g = g 176) ∧
    (∀ (g : Nat → Option β), (xgP (mm P I J) 164 12 28).bind g = g 177) ∧
    (∀ (g : Nat → Option β), (xgP (mm P I J) 164 12 29).bind g = g 178) ∧
    (∀ (g : Nat → Option β), (xgP (mm P I J) 164 12 30).bind g = g 179) ∧
    (∀ (g : Nat → Option β), (xgP (mm P I J) 164 12 31).bind g = g 180) ∧
    (∀ (g : Nat → Option β), (xgP (mm P I J) 164 12 32).bind g = g 181) ∧
    (∀ (g : Nat → Option β), (xgP (mm P I J) 164 12 33).bind g = g 182) ∧
    (∀ (g : Nat → Option β), (xgP (mm P I J) 164 12 34).bind g = g 183) ∧
    (∀ (g : Nat → Option β), (xgP (mm P I J) 164 12 35).bind g = g 184) :=
  ⟨fun f g => bs (m_gI (by decide +kernel) I J f) g,
   fun f v g => bs (m_pI (by decide +kernel) I J f v) g,
   fun g => bs (m_ck (by decide +kernel) I J) g,
   fun g => bs (m_gP hP (by decide +kernel) (by decide +kernel) I J) g,
   fun g => bs (m_gP hP (by decide +kernel) (by decide +kernel) I J) g,
   fun g => bs (m_gP hP (by decide +kernel) (by decide +kernel) I J) g,
   fun g => bs (m_gP hP (by decide +kernel) (by decide +kernel) I J) g,
   fun g => bs (m_gP hP (by decide +kernel) (by decide +kernel) I J) g,
   fun g => bs (m_gP hP (by decide +kernel) (by decide +kernel) I J) g,
   fun g => bs (m_gP hP (by decide +kernel) (by decide +kernel) I J) g,
   fun g => bs (m_gP hP (by decide +kernel) (by decide +kernel) I J) g,
   fun g => bs (m_gP hP (by decide +kernel) (by decide +kernel) I J) g,
   fun g => bs (m_gP hP (by decide +kernel) (by decide +kernel) I J) g,
   fun g => bs (m_gP hP (by decide +kernel) (by decide +kernel) I J) g,
   fun g => bs (m_gP hP (by decide +kernel) (by decide +kernel) I J) g,
   fun g => bs (m_gP hP (by decide +kernel) (by decide +kernel) I J) g,
   fun g => bs (m_gP hP (by decide +kernel) (by decide +kernel) I J) g,
   fun g => bs (m_gP hP (by decide +kernel) (by decide +kernel) I J) g,
   fun g => bs (m_gP hP (by decide +kernel) (by decide +kernel) I J) g,
   fun g => bs (m_gP hP (by decide +kernel) (by decide +kernel) I J) g,
   fun g => bs (m_gP hP (by decide +kernel) (by decide +kernel) I J) g,
   fun g => bs (m_gP hP (by decide +kernel) (by decide +kernel) I J) g,
   fun g => bs (m_gP hP (by decide +kernel) (by decide +kernel) I J) g⟩
/-- the class: arrays -/
theorem bAC {P : Nat → Nat → Option Nat} {β : Type} (I : Nat → Nat → Int32) (J : Nat → Nat → Int64) :
    (∀ j (g : Int32 → Option β), j < 6 → (xaI (mm P I J) 20 15 (nI j)).bind g = g (I 15 j)) ∧
    (∀ j v (g : xM → Option β), j < 6 → (xsI (mm P I J) 15 (nI j) v).bind g = g (mm P (xu I 15 j v) J)) ∧
    (∀ j (g : Int32 → Option β), j < 6 → (xaI (mm P I J) 20 16 (nI j)).bind g = g (I 16 j)) ∧
    (∀ j v (g : xM → Option β), j < 6 → (xsI (mm P I J) 16 (nI j) v).bind g = g (mm P (xu I 16 j v) J)) ∧
    (∀ j (g : Int32 → Option β), j < 6 → (xaI (mm P I J) 20 17 (nI j)).bind g = g (I 17 j)) ∧
    (∀ j v (g : xM → Option β), j < 6 → (xsI (mm P I J) 17 (nI j) v).bind g = g (mm P (xu I 17 j v) J)) ∧
    (∀ j (g : Int32 → Option β), j < 6 → (xaI (mm P I J) 20 18 (nI j)).bind g = g (I 18 j)) ∧
    (∀ j v (g : xM → Option β), j < 6 → (xsI (mm P I J) 18 (nI j) v).bind g = g (mm P (xu I 18 j v) J)) ∧
    (∀ j (g : Int32 → Option β), j < 5 → (xaI (mm P I J) 20 19 (nI j)).bind g = g (I 19 j)) ∧
    (∀ j v (g : xM → Option β), j < 5 → (xsI (mm P I J) 19 (nI j) v).bind g = g (mm P (xu I 19 j v) J)) ∧
    (∀ j (g : Int32 → Option β), j < 900 → (xaI (mm P I J) 20 20 (nI j)).bind g = g (I 20 j)) ∧
    (∀ j v (g : xM → Option β), j < 900 → (xsI (mm P I J) 20 (nI j) v).bind g = g (mm P (xu I 20 j v) J)) ∧
    (∀ j (g : Int32 → Option β), j < 25 → (xaI (mm P I J) 20 22 (nI j)).bind g = g (I 22 j)) ∧
    (∀ j v (g : xM → Option β), j < 25 → (xsI (mm P I J) 22 (nI j) v).bind g = g (mm P (xu I 22 j v) J)) ∧
    (∀ j (g : Int32 → Option β), j < 6 → (xaI (mm P I J) 20 23 (nI j)).bind g = g (I 23 j)) ∧
    (∀ j v (g : xM → Option β), j < 6 → (xsI (mm P I J) 23 (nI j) v).bind g = g (mm P (xu I 23 j v) J)) ∧
    (∀ j (g : Int32 → Option β), j < 6 → (xaI (mm P I J) 20 24 (nI j)).bind g = g (I 24 j)) ∧
    (∀ j v (g : xM → Option β), j < 6 → (xsI (mm P I J) 24 (nI j) v).bind g = g (mm P (xu I 24 j v) J)) ∧
    (∀ j (g : Int32 → Option β), j < 25 → (xaI (mm P I J) 20 26 (nI j)).bind g = g (I 26 j)) ∧
    (∀ j v (g : xM → Option β), j < 25 → (xsI (mm P I J) 26 (nI j) v).bind g = g (mm P (xu I 26 j v) J)) ∧
    (∀ j (g : Int32 → Option β), j < 6 → (xaI (mm P I J) 20 27 (nI j)).bind g = g (I 27 j)) ∧
    (∀ j v (g : xM → Option β), j < 6 → (xsI (mm P I J) 27 (nI j) v).bind g = g (mm P (xu I 27 j v) J)) ∧
    (∀ j (g : Int32 → Option β), j < 6 → (xaI (mm P I J) 20 28 (nI j)).bind g = g (I 28 j)) ∧
    (∀ j v (g : xM → Option β), j < 6 → (xsI (mm P I J) 28 (nI j) v).bind g = g (mm P (xu I 28 j v) J)) ∧
    (∀ j (g : Int32 → Option β), j < 6 → (xaI (mm P I J) 20 31 (nI j)).bind g = g (I 31 j)) ∧
    (∀ j v (g : xM → Option β), j < 6 → (xsI (mm P I J) 31 (nI j) v).bind g = g (mm P (xu I 31 j v) J)) ∧
    (∀ (g : Int32 → Option β), (xaI (mm P I J) 20 31 0).bind g = g (I 31 0)) ∧
    (∀ v (g : xM → Option β), (xsI (mm P I J) 31 0 v).bind g = g (mm P (xu I 31 0 v) J)) ∧
    (∀ (g : Int32 → Option β), (xaI (mm P I J) 20 31 1).bind g = g (I 31 1)) ∧
    (∀ v (g : xM → Option β), (xsI (mm P I J) 31 1 v).bind g = g (mm P (xu I 31 1 v) J)) ∧
    (∀ (g : Int32 → Option β), (xaI (mm P I J) 20 31 2).bind g = g (I 31 2)) ∧
    (∀ v (g : xM → Option β), (xsI (mm P I J) 31 2 v).bind g = g (mm P (xu I 31 2 v) J)) ∧
    (∀ (g : Int32 → Option β), (xaI (mm P I J) 20 31 3).bind g = g (I 31 3)) ∧
    (∀ v (g : xM → Option β), (xsI (mm P I J) 31 3 v).bind g = g (mm P (xu I 31 3 v) J)) ∧
    (∀ (g : Int32 → Option β), (xaI (mm P I J) 20 31 4).bind g = g (I 31 4)) ∧
    (∀ v (g : xM → Option β), (xsI (mm P I J) 31 4 v).bind g = g (mm P (xu I 31 4 v) J)) ∧
    (∀ (g : Int32 → Option β), (xaI (mm P I J) 20 31 5).bind g = g (I 31 5)) ∧
    (∀ v (g : xM → Option β), (xsI (mm P I J) 31 5 v).bind g = g (mm P (xu I 31 5 v) J)) ∧
    (∀ j (g : Int32 → Option β), j < 100 → (xaI (mm P I J) 20 32 (nI j)).bind g = g (I 32 j)) ∧
    (∀ j v (g : xM → Option β), j < 100 → (xsI (mm P I J) 32 (nI j) v).bind g = g (mm P (xu I 32 j v) J)) ∧
    (∀ j (g : Int32 → Option β), j < 25 → (xaI (mm P I J) 20 33 (nI j)).bind g = g (I 33 j)) ∧
    (∀ j v (g : xM → Option β), j < 25 → (xsI (mm P I J) 33 (nI j) v).bind g = g (mm P (xu I 33 j v) J)) ∧
    (∀ j (g : Int32 → Option β), j < 11 → (xaI (mm P I J) 20 34 (nI j)).bind g = g (I 34 j)) ∧
    (∀ j v (g : xM → Option β), j < 11 → (xsI (mm P I J) 34 (nI j) v).bind g = g (mm P (xu I 34 j v) J)) ∧
    (∀ j (g : Int32 → Option β), j < 32 → (xaI (mm P I J) 20 124 (nI j)).bind g = g (I 124 j)) ∧
    (∀ j v (g : xM → Option β), j < 32 → (xsI (mm P I J) 124 (nI j) v).bind g = g (mm P (xu I 124 j v) J)) :=
  ⟨fun j g h => bs (m_aI (by decide +kernel) (by omega) I J j h) g,
   fun j v g h => bs (m_sI (by decide +kernel) (by omega) I J j v h) g,
   fun j g h => bs (m_aI (by decide +kernel) (by omega) I J j h) g,
   fun j v g h => bs (m_sI (by decide +kernel) (by omega) I J j v h) g,
   fun j g h => bs (m_aI (by decide +kernel) (by omega) I J j h) g,
   fun j v g h => bs (m_sI (by decide +kernel) (by omega) I J j v h) g,
   fun j g h => bs (m_aI (by decide +kernel) (by omega) I J j h) g,
   fun j v g h => bs (m_sI (by decide +kernel) (by omega) I J j v h) g,
   fun j g h => bs (m_aI (by decide +kernel) (by omega) I J j h) g,
   fun j v g h => bs (m_sI (by decide +kernel) (by omega) I J j v h) g,
   fun j g h => bs (m_aI (by decide +kernel) (by omega) I J j h) g,
   fun j v g h => bs (m_sI (by decide +kernel) (by omega) I J j v h) g,
   fun j g h => bs (m_aI (by decide +kernel) (by omega) I J j h) g,
   fun j v g h => bs (m_sI (by decide +kernel) (by omega) I J j v h) g,
   fun j g h => bs (m_aI (by decide +kernel) (by omega) I J j h) g,
   fun j v g h => bs (m_sI (by decide +kernel) (by omega) I J j v h) g,
   fun j g h => bs (m_aI (by decide +kernel) (by omega) I J j h) g,
   fun j v g h => bs (m_sI (by decide +kernel) (by omega) I J j v h) g,
   fun j g h => bs (m_aI (by decide +kernel) (by omega) I J j h) g,
   fun j v g h => bs (m_sI (by decide +kernel) (by omega) I J j v h) g,
   fun j g h => bs (m_aI (by decide +kernel) (by omega) I J j h) g,
   fun j v g h => bs (m_sI (by decide +kernel) (by omega) I J j v h) g,
   fun j g h => bs (m_aI (by decide +kernel) (by omega) I J j h) g,
   fun j v g h => bs (m_sI (by decide +kernel) (by omega) I J j v h) g,
   fun j g h => bs (m_aI (by decide +kernel) (by omega) I J j h) g,
   fun j v g h => bs (m_sI (by decide +kernel) (by omega) I J j v h) g,
   fun g => bs (m_aI (n := 6) (by decide +kernel) (by omega) I J 0 (by omega)) g,
   fun v g => bs (m_sI (n := 6) (by decide +kernel) (by omega) I J 0 v (by omega)) g,
   fun g => bs (m_aI (n := 6) (by decide +kernel) (by omega) I J 1 (by omega)) g,
   fun v g => bs (m_sI (n := 6) (by decide +kernel) (by omega) I J 1 v (by omega)) g,
   fun g => bs (m_aI (n := 6) (by decide +kernel) (by omega) I J 2 (by omega)) g,
   fun v g => bs (m_sI (n := 6) (by decide +kernel) (by omega) I J 2 v (by omega)) g,
   fun g => bs (m_aI (n := 6) (by decide +kernel) (by omega) I J 3 (by omega)) g,
   fun v g => bs (m_sI (n := 6) (by decide +kernel) (by omega) I J 3 v (by omega)) g,
   fun g => bs (m_aI (n := 6) (by decide +kernel) (by omega) I J 4 (by omega)) g,
   fun v g => bs (m_sI (n := 6) (by decide +kernel) (by omega) I J 4 v (by omega)) g,
   fun g => bs (m_aI (n := 6) (by decide +kernel) (by omega) I J 5 (by omega)) g,
   fun v g => bs (m_sI (n := 6) (by decide +kernel) (by omega) I J 5 v (by omega)) g,
   fun j g h => bs (m_aI (by decide +kernel) (by omega) I J j h) g,
   fun j v g h => bs (m_sI (by decide +kernel) (by omega) I J j v h) g,
   fun j g h => bs (m_aI (by decide +kernel) (by omega) I J j h) g,
   fun j v g h => bs (m_sI (by decide +kernel) (by omega) I J j v h) g,
   fun j g h => bs (m_aI (by decide +kernel) (by omega) I J j h) g,
   fun j v g h => bs (m_sI (by decide +kernel) (by omega) I J j v h) g,
   fun j g h => bs (m_aI (by decide +kernel) (by omega) I J j h) g,
   fun j v g h => bs (m_sI (by decide +kernel) (by omega) I J j v h) g⟩
/-- dike, planner, sheets, gales: arrays -/
theorem bAX {P : Nat → Nat → Option Nat} {β : Type} (I : Nat → Nat → Int32) (J : Nat → Nat → Int64) :
    (∀ j (g : Int32 → Option β), j < 25 → (xaI (mm P I J) 20 115 (nI j)).bind g = g (I 115 j)) ∧
    (∀ j v (g : xM → Option β), j < 25 → (xsI (mm P I J) 115 (nI j) v).bind g = g (mm P (xu I 115 j v) J)) ∧
    (∀ j (g : Int32 → Option β), j < 25 → (xaI (mm P I J) 20 116 (nI j)).bind g = g (I 116 j)) ∧
    (∀ j v (g : xM → Option β), j < 25 → (xsI (mm P I J) 116 (nI j) v).bind g = g (mm P (xu I 116 j v) J)) ∧
    (∀ j (g : Int32 → Option β), j < 625 → (xaI (mm P I J) 20 117 (nI j)).bind g = g (I 117 j)) ∧
    (∀ j v (g : xM → Option β), j < 625 → (xsI (mm P I J) 117 (nI j) v).bind g = g (mm P (xu I 117 j v) J)) ∧
    (∀ j (g : Int32 → Option β), j < 50 → (xaI (mm P I J) 20 118 (nI j)).bind g = g (I 118 j)) ∧
    (∀ j v (g : xM → Option β), j < 50 → (xsI (mm P I J) 118 (nI j) v).bind g = g (mm P (xu I 118 j v) J)) ∧
    (∀ j (g : Int32 → Option β), j < 50 → (xaI (mm P I J) 20 119 (nI j)).bind g = g (I 119 j)) ∧
    (∀ j v (g : xM → Option β), j < 50 → (xsI (mm P I J) 119 (nI j) v).bind g = g (mm P (xu I 119 j v) J)) ∧
    (∀ j (g : Int32 → Option β), j < 6 → (xaI (mm P I J) 20 121 (nI j)).bind g = g (I 121 j)) ∧
    (∀ j v (g : xM → Option β), j < 6 → (xsI (mm P I J) 121 (nI j) v).bind g = g (mm P (xu I 121 j v) J)) ∧
    (∀ j (g : Int32 → Option β), j < 6 → (xaI (mm P I J) 20 123 (nI j)).bind g = g (I 123 j)) ∧
    (∀ j v (g : xM → Option β), j < 6 → (xsI (mm P I J) 123 (nI j) v).bind g = g (mm P (xu I 123 j v) J)) ∧
    (∀ j (g : Int64 → Option β), j < 6 → (xaJ (mm P I J) 126 (nI j)).bind g = g (J 126 j)) ∧
    (∀ j v (g : xM → Option β), j < 6 → (xsJ (mm P I J) 126 (nI j) v).bind g = g (mm P I (xu J 126 j v))) :=
  ⟨fun j g h => bs (m_aI (by decide +kernel) (by omega) I J j h) g,
   fun j v g h => bs (m_sI (by decide +kernel) (by omega) I J j v h) g,
   fun j g h => bs (m_aI (by decide +kernel) (by omega) I J j h) g,
   fun j v g h => bs (m_sI (by decide +kernel) (by omega) I J j v h) g,
   fun j g h => bs (m_aI (by decide +kernel) (by omega) I J j h) g,
   fun j v g h => bs (m_sI (by decide +kernel) (by omega) I J j v h) g,
   fun j g h => bs (m_aI (by decide +kernel) (by omega) I J j h) g,
   fun j v g h => bs (m_sI (by decide +kernel) (by omega) I J j v h) g,
   fun j g h => bs (m_aI (by decide +kernel) (by omega) I J j h) g,
   fun j v g h => bs (m_sI (by decide +kernel) (by omega) I J j v h) g,
   fun j g h => bs (m_aI (by decide +kernel) (by omega) I J j h) g,
   fun j v g h => bs (m_sI (by decide +kernel) (by omega) I J j v h) g,
   fun j g h => bs (m_aI (by decide +kernel) (by omega) I J j h) g,
   fun j v g h => bs (m_sI (by decide +kernel) (by omega) I J j v h) g,
   fun j g h => bs (m_aJ (by decide +kernel) (by omega) I J j h) g,
   fun j v g h => bs (m_sJ (by decide +kernel) (by omega) I J j v h) g⟩
/-- the model: arrays -/
theorem bAM {P : Nat → Nat → Option Nat} {β : Type} (I : Nat → Nat → Int32) (J : Nat → Nat → Int64) :
    (∀ j (g : Int32 → Option β), j < 4260 → (xaI (mm P I J) 20 165 (nI j)).bind g = g (I 165 j)) ∧
    (∀ j v (g : xM → Option β), j < 4260 → (xsI (mm P I J) 165 (nI j) v).bind g = g (mm P (xu I 165 j v) J)) ∧
    (∀ (g : Int32 → Option β), (xaI (mm P I J) 20 165 0).bind g = g (I 165 0)) ∧
    (∀ v (g : xM → Option β), (xsI (mm P I J) 165 0 v).bind g = g (mm P (xu I 165 0 v) J)) ∧
    (∀ (g : Int32 → Option β), (xaI (mm P I J) 20 165 1).bind g = g (I 165 1)) ∧
    (∀ v (g : xM → Option β), (xsI (mm P I J) 165 1 v).bind g = g (mm P (xu I 165 1 v) J)) ∧
    (∀ (g : Int32 → Option β), (xaI (mm P I J) 20 165 2).bind g = g (I 165 2)) ∧
    (∀ v (g : xM → Option β), (xsI (mm P I J) 165 2 v).bind g = g (mm P (xu I 165 2 v) J)) ∧
    (∀ (g : Int32 → Option β), (xaI (mm P I J) 20 165 3).bind g = g (I 165 3)) ∧
    (∀ v (g : xM → Option β), (xsI (mm P I J) 165 3 v).bind g = g (mm P (xu I 165 3 v) J)) ∧
    (∀ (g : Int32 → Option β), (xaI (mm P I J) 20 165 4).bind g = g (I 165 4)) ∧
    (∀ v (g : xM → Option β), (xsI (mm P I J) 165 4 v).bind g = g (mm P (xu I 165 4 v) J)) ∧
    (∀ (g : Int32 → Option β), (xaI (mm P I J) 20 165 5).bind g = g (I 165 5)) ∧
    (∀ v (g : xM → Option β), (xsI (mm P I J) 165 5 v).bind g = g (mm P (xu I 165 5 v) J)) ∧
    (∀ (g : Int32 → Option β), (xaI (mm P I J) 20 165 6).bind g = g (I 165 6)) ∧
    (∀ v (g : xM → Option β), (xsI (mm P I J) 165 6 v).bind g = g (mm P (xu I 165 6 v) J)) ∧
    (∀ (g : Int32 → Option β), (xaI (mm P I J) 20 165 7).bind g = g (I 165 7)) ∧
    (∀ v (g : xM → Option β), (xsI (mm P I J) 165 7 v).bind g = g (mm P (xu I 165 7 v) J)) ∧
    (∀ (g : Int32 → Option β), (xaI (mm P I J) 20 165 8).bind g = g (I 165 8)) ∧
    (∀ v (g : xM → Option β), (xsI (mm P I J) 165 8 v).bind g = g (mm P (xu I 165 8 v) J)) ∧
    (∀ (g : Int32 → Option β), (xaI (mm P I J) 20 165 9).bind g = g (I 165 9)) ∧
    (∀ v (g : xM → Option β), (xsI (mm P I J) 165 9 v).bind g = g (mm P (xu I 165 9 v) J)) ∧
    (∀ (g : Int32 → Option β), (xaI (mm P I J) 20 165 10).bind g = g (I 165 10)) ∧
    (∀ v (g : xM → Option β), (xsI (mm P I J) 165 10 v).bind g = g (mm P (xu I 165 10 v) J)) ∧
    (∀ (g : Int32 → Option β), (xaI (mm P I J) 20 165 11).bind g = g (I 165 11)) ∧
    (∀ v (g : xM → Option β), (xsI (mm P I J) 165 11 v).bind g = g (mm P (xu I 165 11 v) J)) ∧
    (∀ (g : Int32 → Option β), (xaI (mm P I J) 20 165 12).bind g = g (I 165 12)) ∧
    (∀ v (g : xM → Option β), (xsI (mm P I J) 165 12 v).bind g = g (mm P (xu I 165 12 v) J)) ∧
    (∀ (g : Int32 → Option β), (xaI (mm P I J) 20 165 92).bind g = g (I 165 92)) ∧
    (∀ v (g : xM → Option β), (xsI (mm P I J) 165 92 v).bind g = g (mm P (xu I 165 92 v) J)) ∧
    (∀ (g : Int32 → Option β), (xaI (mm P I J) 20 165 105).bind g = g (I 165 105)) ∧
    (∀ v (g : xM → Option β), (xsI (mm P I J) 165 105 v).bind g = g (mm P (xu I 165 105 v) J)) ∧
    (∀ (g : Int32 → Option β), (xaI (mm P I J) 20 165 106).bind g = g (I 165 106)) ∧
    (∀ v (g : xM → Option β), (xsI (mm P I J) 165 106 v).bind g = g (mm P (xu I 165 106 v) J)) ∧
    (∀ (g : Int32 → Option β), (xaI (mm P I J) 20 165 107).bind g = g (I 165 107)) ∧
    (∀ v (g : xM → Option β), (xsI (mm P I J) 165 107 v).bind g = g (mm P (xu I 165 107 v) J)) ∧
    (∀ (g : Int32 → Option β), (xaI (mm P I J) 20 165 108).bind g = g (I 165 108)) ∧
    (∀ v (g : xM → Option β), (xsI (mm P I J) 165 108 v).bind g = g (mm P (xu I 165 108 v) J)) ∧
    (∀ (g : Int32 → Option β), (xaI (mm P I J) 20 165 519).bind g = g (I 165 519)) ∧
    (∀ v (g : xM → Option β), (xsI (mm P I J) 165 519 v).bind g = g (mm P (xu I 165 519 v) J)) ∧
    (∀ j (g : Int32 → Option β), j < 900 → (xaI (mm P I J) 20 167 (nI j)).bind g = g (I 167 j)) ∧
    (∀ j v (g : xM → Option β), j < 900 → (xsI (mm P I J) 167 (nI j) v).bind g = g (mm P (xu I 167 j v) J)) ∧
    (∀ j (g : Int32 → Option β), j < 1420 → (xaI (mm P I J) 20 168 (nI j)).bind g = g (I 168 j)) ∧
    (∀ j v (g : xM → Option β), j < 1420 → (xsI (mm P I J) 168 (nI j) v).bind g = g (mm P (xu I 168 j v) J)) ∧
    (∀ (g : Int32 → Option β), (xaI (mm P I J) 20 168 0).bind g = g (I 168 0)) ∧
    (∀ v (g : xM → Option β), (xsI (mm P I J) 168 0 v).bind g = g (mm P (xu I 168 0 v) J)) ∧
    (∀ (g : Int32 → Option β), (xaI (mm P I J) 20 168 1).bind g = g (I 168 1)) ∧
    (∀ v (g : xM → Option β), (xsI (mm P I J) 168 1 v).bind g = g (mm P (xu I 168 1 v) J)) ∧
    (∀ (g : Int32 → Option β), (xaI (mm P I J) 20 168 2).bind g = g (I 168 2)) ∧
    (∀ v (g : xM → Option β), (xsI (mm P I J) 168 2 v).bind g = g (mm P (xu I 168 2 v) J)) ∧
    (∀ (g : Int32 → Option β), (xaI (mm P I J) 20 168 3).bind g = g (I 168 3)) ∧
    (∀ v (g : xM → Option β), (xsI (mm P I J) 168 3 v).bind g = g (mm P (xu I 168 3 v) J)) ∧
    (∀ (g : Int32 → Option β), (xaI (mm P I J) 20 168 4).bind g = g (I 168 4)) ∧
    (∀ v (g : xM → Option β), (xsI (mm P I J) 168 4 v).bind g = g (mm P (xu I 168 4 v) J)) ∧
    (∀ (g : Int32 → Option β), (xaI (mm P I J) 20 168 5).bind g = g (I 168 5)) ∧
    (∀ v (g : xM → Option β), (xsI (mm P I J) 168 5 v).bind g = g (mm P (xu I 168 5 v) J)) ∧
    (∀ (g : Int32 → Option β), (xaI (mm P I J) 20 168 6).bind g = g (I 168 6)) ∧
    (∀ v (g : xM → Option β), (xsI (mm P I J) 168 6 v).bind g = g (mm P (xu I 168 6 v) J)) ∧
    (∀ (g : Int32 → Option β), (xaI (mm P I J) 20 168 7).bind g = g (I 168 7)) ∧
    (∀ v (g : xM → Option β), (xsI (mm P I J) 168 7 v).bind g = g (mm P (xu I 168 7 v) J)) ∧
    (∀ (g : Int32 → Option β), (xaI (mm P I J) 20 168 8).bind g = g (I 168 8)) ∧
    (∀ v (g : xM → Option β), (xsI (mm P I J) 168 8 v).bind g = g (mm P (xu I 168 8 v) J)) ∧
    (∀ (g : Int32 → Option β), (xaI (mm P I J) 20 168 9).bind g = g (I 168 9)) ∧
    (∀ v (g : xM → Option β), (xsI (mm P I J) 168 9 v).bind g = g (mm P (xu I 168 9 v) J)) ∧
    (∀ (g : Int32 → Option β), (xaI (mm P I J) 20 168 10).bind g = g (I 168 10)) ∧
    (∀ v (g : xM → Option β), (xsI (mm P I J) 168 10 v).bind g = g (mm P (xu I 168 10 v) J)) ∧
    (∀ (g : Int32 → Option β), (xaI (mm P I J) 20 168 11).bind g = g (I 168 11)) ∧
    (∀ v (g : xM → Option β), (xsI (mm P I J) 168 11 v).bind g = g (mm P (xu I 168 11 v) J)) ∧
    (∀ (g : Int32 → Option β), (xaI (mm P I J) 20 168 12).bind g = g (I 168 12)) ∧
    (∀ v (g : xM → Option β), (xsI (mm P I J) 168 12 v).bind g = g (mm P (xu I 168 12 v) J)) ∧
    (∀ (g : Int32 → Option β), (xaI (mm P I J) 20 168 92).bind g = g (I 168 92)) ∧
    (∀ v (g : xM → Option β), (xsI (mm P I J) 168 92 v).bind g = g (mm P (xu I 168 92 v) J)) ∧
    (∀ (g : Int32 → Option β), (xaI (mm P I J) 20 168 105).bind g = g (I 168 105)) ∧
    (∀ v (g : xM → Option β), (xsI (mm P I J) 168 105 v).bind g = g (mm P (xu I 168 105 v) J)) ∧
    (∀ (g : Int32 → Option β), (xaI (mm P I J) 20 168 106).bind g = g (I 168 106)) ∧
    (∀ v (g : xM → Option β), (xsI (mm P I J) 168 106 v).bind g = g (mm P (xu I 168 106 v) J)) ∧
    (∀ (g : Int32 → Option β), (xaI (mm P I J) 20 168 107).bind g = g (I 168 107)) ∧
    (∀ v (g : xM → Option β), (xsI (mm P I J) 168 107 v).bind g = g (mm P (xu I 168 107 v) J)) ∧
    (∀ (g : Int32 → Option β), (xaI (mm P I J) 20 168 108).bind g = g (I 168 108)) ∧
    (∀ v (g : xM → Option β), (xsI (mm P I J) 168 108 v).bind g = g (mm P (xu I 168 108 v) J)) ∧
    (∀ (g : Int32 → Option β), (xaI (mm P I J) 20 168 519).bind g = g (I 168 519)) ∧
    (∀ v (g : xM → Option β), (xsI (mm P I J) 168 519 v).bind g = g (mm P (xu I 168 519 v) J)) ∧
    (∀ j (g : Int32 → Option β), j < 900 → (xaI (mm P I J) 20 169 (nI j)).bind g = g (I 169 j)) ∧
    (∀ j v (g : xM → Option β), j < 900 → (xsI (mm P I J) 169 (nI j) v).bind g = g (mm P (xu I 169 j v) J)) ∧
    (∀ j (g : Int32 → Option β), j < 6 → (xaI (mm P I J) 20 170 (nI j)).bind g = g (I 170 j)) ∧
    (∀ j v (g : xM → Option β), j < 6 → (xsI (mm P I J) 170 (nI j) v).bind g = g (mm P (xu I 170 j v) J)) ∧
    (∀ (g : Int32 → Option β), (xaI (mm P I J) 20 170 0).bind g = g (I 170 0)) ∧
    (∀ v (g : xM → Option β), (xsI (mm P I J) 170 0 v).bind g = g (mm P (xu I 170 0 v) J)) ∧
    (∀ (g : Int32 → Option β), (xaI (mm P I J) 20 170 1).bind g = g (I 170 1)) ∧
    (∀ v (g : xM → Option β), (xsI (mm P I J) 170 1 v).bind g = g (mm P (xu I 170 1 v) J)) ∧
    (∀ (g : Int32 → Option β), (xaI (mm P I J) 20 170 2).bind g = g (I 170 2)) ∧
    (∀ v (g : xM → Option β), (xsI (mm P I J) 170 2 v).bind g = g (mm P (xu I 170 2 v) J)) ∧
    (∀ (g : Int32 → Option β), (xaI (mm P I J) 20 170 3).bind g = g (I 170 3)) ∧
    (∀ v (g : xM → Option β), (xsI (mm P I J) 170 3 v).bind g = g (mm P (xu I 170 3 v) J)) ∧
    (∀ (g : Int32 → Option β), (xaI (mm P I J) 20 170 4).bind g = g (I 170 4)) ∧
    (∀ v (g : xM → Option β), (xsI (mm P I J) 170 4 v).bind g = g (mm P (xu I 170 4 v) J)) ∧
    (∀ (g : Int32 → Option β), (xaI (mm P I J) 20 170 5).bind g = g (I 170 5)) ∧
    (∀ v (g : xM → Option β), (xsI (mm P I J) 170 5 v).bind g = g (mm P (xu I 170 5 v) J)) ∧
    (∀ j (g : Int32 → Option β), j < 25 → (xaI (mm P I J) 20 171 (nI j)).bind g = g (I 171 j)) ∧
    (∀ j v (g : xM → Option β), j < 25 → (xsI (mm P I J) 171 (nI j) v).bind g = g (mm P (xu I 171 j v) J)) ∧
    (∀ j (g : Int32 → Option β), j < 25 → (xaI (mm P I J) 20 172 (nI j)).bind g = g (I 172 j)) ∧
    (∀ j v (g : xM → Option β), j < 25 → (xsI (mm P I J) 172 (nI j) v).bind g = g (mm P (xu I 172 j v) J)) ∧
    (∀ j (g : Int32 → Option β), j < 41 → (xaI (mm P I J) 20 173 (nI j)).bind g = g (I 173 j)) ∧
    (∀ j v (g : xM → Option β), j < 41 → (xsI (mm P I J) 173 (nI j) v).bind g = g (mm P (xu I 173 j v) J)) ∧
    (∀ (g : Int32 → Option β), (xaI (mm P I J) 20 173 38).bind g = g (I 173 38)) ∧
    (∀ v (g : xM → Option β), (xsI (mm P I J) 173 38 v).bind g = g (mm P (xu I 173 38 v) J)) ∧
    (∀ (g : Int32 → Option β), (xaI (mm P I J) 20 173 39).bind g = g (I 173 39)) ∧
    (∀ v (g : xM → Option β), (xsI (mm P I J) 173 39 v).bind g = g (mm P (xu I 173 39 v) J)) ∧
    (∀ (g : Int32 → Option β), (xaI (mm P I J) 20 173 40).bind g = g (I 173 40)) ∧
    (∀ v (g : xM → Option β), (xsI (mm P I J) 173 40 v).bind g = g (mm P (xu I 173 40 v) J)) ∧
    (∀ j (g : Int32 → Option β), j < 2601 → (xaI (mm P I J) 20 174 (nI j)).bind g = g (I 174 j)) ∧
    (∀ j v (g : xM → Option β), j < 2601 → (xsI (mm P I J) 174 (nI j) v).bind g = g (mm P (xu I 174 j v) J)) ∧
    (∀ j (g : Int32 → Option β), j < 51 → (xaI (mm P I J) 20 175 (nI j)).bind g = g (I 175 j)) ∧
    (∀ j v (g : xM → Option β), j < 51 → (xsI (mm P I J) 175 (nI j) v).bind g = g (mm P (xu I 175 j v) J)) ∧
    (∀ j (g : Int32 → Option β), j < 51 → (xaI (mm P I J) 20 176 (nI j)).bind g = g (I 176 j)) ∧
    (∀ j v (g : xM → Option β), j < 51 → (xsI (mm P I J) 176 (nI j) v).bind g = g (mm P (xu I 176 j v) J)) ∧
    (∀ j (g : Int32 → Option β), j < 6 → (xaI (mm P I J) 20 177 (nI j)).bind g = g (I 177 j)) ∧
    (∀ j v (g : xM → Option β), j < 6 → (xsI (mm P I J) 177 (nI j) v).bind g = g (mm P (xu I 177 j v) J)) ∧
    (∀ j (g : Int32 → Option β), j < 6 → (xaI (mm P I J) 20 178 (nI j)).bind g = g (I 178 j)) ∧
    (∀ j v (g : xM → Option β), j < 6 → (xsI (mm P I J) 178 (nI j) v).bind g = g (mm P (xu I 178 j v) J)) ∧
    (∀ j (g : Int32 → Option β), j < 11 → (xaI (mm P I J) 20 179 (nI j)).bind g = g (I 179 j)) ∧
    (∀ j v (g : xM → Option β), j < 11 → (xsI (mm P I J) 179 (nI j) v).bind g = g (mm P (xu I 179 j v) J)) ∧
    (∀ j (g : Int32 → Option β), j < 225 → (xaI (mm P I J) 20 180 (nI j)).bind g = g (I 180 j)) ∧
    (∀ j v (g : xM → Option β), j < 225 → (xsI (mm P I J) 180 (nI j) v).bind g = g (mm P (xu I 180 j v) J)) ∧
    (∀ j (g : Int64 → Option β), j < 6 → (xaJ (mm P I J) 181 (nI j)).bind g = g (J 181 j)) ∧
    (∀ j v (g : xM → Option β), j < 6 → (xsJ (mm P I J) 181 (nI j) v).bind g = g (mm P I (xu J 181 j v))) ∧
    (∀ j (g : Int32 → Option β), j < 4 → (xaI (mm P I J) 20 182 (nI j)).bind g = g (I 182 j)) ∧
    (∀ j v (g : xM → Option β), j < 4 → (xsI (mm P I J) 182 (nI j) v).bind g = g (mm P (xu I 182 j v) J)) ∧
    (∀ j (g : Int32 → Option β), j < 4 → (xaI (mm P I J) 20 183 (nI j)).bind g = g (I 183 j)) ∧
    (∀ j v (g : xM → Option β), j < 4 → (xsI (mm P I J) 183 (nI j) v).bind g = g (mm P (xu I 183 j v) J)) ∧
    (∀ j (g : Int64 → Option β), j < 160 → (xaJ (mm P I J) 184 (nI j)).bind g = g (J 184 j)) ∧
    (∀ j v (g : xM → Option β), j < 160 → (xsJ (mm P I J) 184 (nI j) v).bind g = g (mm P I (xu J 184 j v))) :=
  ⟨fun j g h => bs (m_aI (by decide +kernel) (by omega) I J j h) g,
   fun j v g h => bs (m_sI (by decide +kernel) (by omega) I J j v h) g,
   fun g => bs (m_aI (n := 4260) (by decide +kernel) (by omega) I J 0 (by omega)) g,
   fun v g => bs (m_sI (n := 4260) (by decide +kernel) (by omega) I J 0 v (by omega)) g,
   fun g => bs (m_aI (n := 4260) (by decide +kernel) (by omega) I J 1 (by omega)) g,
   fun v g => bs (m_sI (n := 4260) (by decide +kernel) (by omega) I J 1 v (by omega)) g,
   fun g => bs (m_aI (n := 4260) (by decide +kernel) (by omega) I J 2 (by omega)) g,
   fun v g => bs (m_sI (n := 4260) (by decide +kernel) (by omega) I J 2 v (by omega)) g,
   fun g => bs (m_aI (n := 4260) (by decide +kernel) (by omega) I J 3 (by omega)) g,
   fun v g => bs (m_sI (n := 4260) (by decide +kernel) (by omega) I J 3 v (by omega)) g,
   fun g => bs (m_aI (n := 4260) (by decide +kernel) (by omega) I J 4 (by omega)) g,
   fun v g => bs (m_sI (n := 4260) (by decide +kernel) (by omega) I J 4 v (by omega)) g,
   fun g => bs (m_aI (n := 4260) (by decide +kernel) (by omega) I J 5 (by omega)) g,
   fun v g => bs (m_sI (n := 4260) (by decide +kernel) (by omega) I J 5 v (by omega)) g,
   fun g => bs (m_aI (n := 4260) (by decide +kernel) (by omega) I J 6 (by omega)) g,
   fun v g => bs (m_sI (n := 4260) (by decide +kernel) (by omega) I J 6 v (by omega)) g,
   fun g => bs (m_aI (n := 4260) (by decide +kernel) (by omega) I J 7 (by omega)) g,
   fun v g => bs (m_sI (n := 4260) (by decide +kernel) (by omega) I J 7 v (by omega)) g,
   fun g => bs (m_aI (n := 4260) (by decide +kernel) (by omega) I J 8 (by omega)) g,
   fun v g => bs (m_sI (n := 4260) (by decide +kernel) (by omega) I J 8 v (by omega)) g,
   fun g => bs (m_aI (n := 4260) (by decide +kernel) (by omega) I J 9 (by omega)) g,
   fun v g => bs (m_sI (n := 4260) (by decide +kernel) (by omega) I J 9 v (by omega)) g,
   fun g => bs (m_aI (n := 4260) (by decide +kernel) (by omega) I J 10 (by omega)) g,
   fun v g => bs (m_sI (n := 4260) (by decide +kernel) (by omega) I J 10 v (by omega)) g,
   fun g => bs (m_aI (n := 4260) (by decide +kernel) (by omega) I J 11 (by omega)) g,
   fun v g => bs (m_sI (n := 4260) (by decide +kernel) (by omega) I J 11 v (by omega)) g,
   fun g => bs (m_aI (n := 4260) (by decide +kernel) (by omega) I J 12 (by omega)) g,
   fun v g => bs (m_sI (n := 4260) (by decide +kernel) (by omega) I J 12 v (by omega)) g,
   fun g => bs (m_aI (n := 4260) (by decide +kernel) (by omega) I J 92 (by omega)) g,
   fun v g => bs (m_sI (n := 4260) (by decide +kernel) (by omega) I J 92 v (by omega)) g,
   fun g => bs (m_aI (n := 4260) (by decide +kernel) (by omega) I J 105 (by omega)) g,
   fun v g => bs (m_sI (n := 4260) (by decide +kernel) (by omega) I J 105 v (by omega)) g,
   fun g => bs (m_aI (n := 4260) (by decide +kernel) (by omega) I J 106 (by omega)) g,
   fun v g => bs (m_sI (n := 4260) (by decide +kernel) (by omega) I J 106 v (by omega)) g,
   fun g => bs (m_aI (n := 4260) (by decide +kernel) (by omega) I J 107 (by omega)) g,
   fun v g => bs (m_sI (n := 4260) (by decide +kernel) (by omega) I J 107 v (by omega)) g,
   fun g => bs (m_aI (n := 4260) (by decide +kernel) (by omega) I J 108 (by omega)) g,
   fun v g => bs (m_sI (n := 4260) (by decide +kernel) (by omega) I J 108 v (by omega)) g,
   fun g => bs (m_aI (n := 4260) (by decide +kernel) (by omega) I J 519 (by omega)) g,
   fun v g => bs (m_sI (n := 4260) (by decide +kernel) (by omega) I J 519 v (by omega)) g,
   fun j g h => bs (m_aI (by decide +kernel) (by omega) I J j h) g,
   fun j v g h => bs (m_sI (by decide +kernel) (by omega) I J j v h) g,
   fun j g h => bs (m_aI (by decide +kernel) (by omega) I J j h) g,
   fun j v g h => bs (m_sI (by decide +kernel) (by omega) I J j v h) g,
   fun g => bs (m_aI (n := 1420) (by decide +kernel) (by omega) I J 0 (by omega)) g,
   fun v g => bs (m_sI (n := 1420) (by decide +kernel) (by omega) I J 0 v (by omega)) g,
   fun g => bs (m_aI (n := 1420) (by decide +kernel) (by omega) I J 1 (by omega)) g,
   fun v g => bs (m_sI (n := 1420) (by decide +kernel) (by omega) I J 1 v (by omega)) g,
   fun g => bs (m_aI (n := 1420) (by decide +kernel) (by omega) I J 2 (by omega)) g,
   fun v g => bs (m_sI (n := 1420) (by decide +kernel) (by omega) I J 2 v (by omega)) g,
   fun g => bs (m_aI (n := 1420) (by decide +kernel) (by omega) I J 3 (by omega)) g,
   fun v g => bs (m_sI (n := 1420) (by decide +kernel) (by omega) I J 3 v (by omega)) g,
   fun g => bs (m_aI (n := 1420) (by decide +kernel) (by omega) I J 4 (by omega)) g,
   fun v g => bs (m_sI (n := 1420) (by decide +kernel) (by omega) I J 4 v (by omega)) g,
   fun g => bs (m_aI (n := 1420) (by decide +kernel) (by omega) I J 5 (by omega)) g,
   fun v g => bs (m_sI (n := 1420) (by decide +kernel) (by omega) I J 5 v (by omega)) g,
   fun g => bs (m_aI (n := 1420) (by decide +kernel) (by omega) I J 6 (by omega)) g,
   fun v g => bs (m_sI (n := 1420) (by decide +kernel) (by omega) I J 6 v (by omega)) g,
   fun g => bs (m_aI (n := 1420) (by decide +kernel) (by omega) I J 7 (by omega)) g,
   fun v g => bs (m_sI (n := 1420) (by decide +kernel) (by omega) I J 7 v (by omega)) g,
   fun g => bs (m_aI (n := 1420) (by decide +kernel) (by omega) I J 8 (by omega)) g,
   fun v g => bs (m_sI (n := 1420) (by decide +kernel) (by omega) I J 8 v (by omega)) g,
   fun g => bs (m_aI (n := 1420) (by decide +kernel) (by omega) I J 9 (by omega)) g,
   fun v g => bs (m_sI (n := 1420) (by decide +kernel) (by omega) I J 9 v (by omega)) g,
   fun g => bs (m_aI (n := 1420) (by decide +kernel) (by omega) I J 10 (by omega)) g,
   fun v g => bs (m_sI (n := 1420) (by decide +kernel) (by omega) I J 10 v (by omega)) g,
   fun g => bs (m_aI (n := 1420) (by decide +kernel) (by omega) I J 11 (by omega)) g,
   fun v g => bs (m_sI (n := 1420) (by decide +kernel) (by omega) I J 11 v (by omega)) g,
   fun g => bs (m_aI (n := 1420) (by decide +kernel) (by omega) I J 12 (by omega)) g,
   fun v g => bs (m_sI (n := 1420) (by decide +kernel) (by omega) I J 12 v (by omega)) g,
   fun g => bs (m_aI (n := 1420) (by decide +kernel) (by omega) I J 92 (by omega)) g,
   fun v g => bs (m_sI (n := 1420) (by decide +kernel) (by omega) I J 92 v (by omega)) g,
   fun g => bs (m_aI (n := 1420) (by decide +kernel) (by omega) I J 105 (by omega)) g,
   fun v g => bs (m_sI (n := 1420) (by decide +kernel) (by omega) I J 105 v (by omega)) g,
   fun g => bs (m_aI (n := 1420) (by decide +kernel) (by omega) I J 106 (by omega)) g,
   fun v g => bs (m_sI (n := 1420) (by decide +kernel) (by omega) I J 106 v (by omega)) g,
   fun g => bs (m_aI (n := 1420) (by decide +kernel) (by omega) I J 107 (by omega)) g,
   fun v g => bs (m_sI (n := 1420) (by decide +kernel) (by omega) I J 107 v (by omega)) g,
   fun g => bs (m_aI (n := 1420) (by decide +kernel) (by omega) I J 108 (by omega)) g,
   fun v g => bs (m_sI (n := 1420) (by decide +kernel) (by omega) I J 108 v (by omega)) g,
   fun g => bs (m_aI (n := 1420) (by decide +kernel) (by omega) I J 519 (by omega)) g,
   fun v g => bs (m_sI (n := 1420) (by decide +kernel) (by omega) I J 519 v (by omega)) g,
   fun j g h => bs (m_aI (by decide +kernel) (by omega) I J j h) g,
   fun j v g h => bs (m_sI (by decide +kernel) (by omega) I J j v h) g,
   fun j g h => bs (m_aI (by decide +kernel) (by omega) I J j h) g,
   fun j v g h => bs (m_sI (by decide +kernel) (by omega) I J j v h) g,
   fun g => bs (m_aI (n := 6) (by decide +kernel) (by omega) I J 0 (by omega)) g,
   fun v g => bs (m_sI (n := 6) (by decide +kernel) (by omega) I J 0 v (by omega)) g,
   fun g => bs (m_aI (n := 6) (by decide +kernel) (by omega) I J 1 (by omega)) g,
   fun v g => bs (m_sI (n := 6) (by decide +kernel) (by omega) I J 1 v (by omega)) g,
   fun g => bs (m_aI (n := 6) (by decide +kernel) (by omega) I J 2 (by omega)) g,
   fun v g => bs (m_sI (n := 6) (by decide +kernel) (by omega) I J 2 v (by omega)) g,
   fun g => bs (m_aI (n := 6) (by decide +kernel) (by omega) I J 3 (by omega)) g,
   fun v g => bs (m_sI (n := 6) (by decide +kernel) (by omega) I J 3 v (by omega)) g,
   fun g => bs (m_aI (n := 6) (by decide +kernel) (by omega) I J 4 (by omega)) g,
   fun v g => bs (m_sI (n := 6) (by decide +kernel) (by omega) I J 4 v (by omega)) g,
   fun g => bs (m_aI (n := 6) (by decide +kernel) (by omega) I J 5 (by omega)) g,
   fun v g => bs (m_sI (n := 6) (by decide +kernel) (by omega) I J 5 v (by omega)) g,
   fun j g h => bs (m_aI (by decide +kernel) (by omega) I J j h) g,
   fun j v g h => bs (m_sI (by decide +kernel) (by omega) I J j v h) g,
   fun j g h => bs (m_aI (by decide +kernel) (by omega) I J j h) g,
   fun j v g h => bs (m_sI (by decide +kernel) (by omega) I J j v h) g,
   fun j g h => bs (m_aI (by decide +kernel) (by omega) I J j h) g,
   fun j v g h => bs (m_sI (by decide +kernel) (by omega) I J j v h) g,
   fun g => bs (m_aI (n := 41) (by decide +kernel) (by omega) I J 38 (by omega)) g,
   fun v g => bs (m_sI (n := 41) (by decide +kernel) (by omega) I J 38 v (by omega)) g,
   fun g => bs (m_aI (n := 41) (by decide +kernel) (by omega) I J 39 (by omega)) g,
   fun v g => bs (m_sI (n := 41) (by decide +kernel) (by omega) I J 39 v (by omega)) g,
   fun g => bs (m_aI (n := 41) (by decide +kernel) (by omega) I J 40 (by omega)) g,
   fun v g => bs (m_sI (n := 41) (by decide +kernel) (by omega) I J 40 v (by omega)) g,
   fun j g h => bs (m_aI (by decide +kernel) (by omega) I J j h) g,
   fun j v g h => bs (m_sI (by decide +kernel) (by omega) I J j v h) g,
   fun j g h => bs (m_aI (by decide +kernel) (by omega) I J j h) g,
   fun j v g h => bs (m_sI (by decide +kernel) (by omega) I J j v h) g,
   fun j g h => bs (m_aI (by decide +kernel) (by omega) I J j h) g,
   fun j v g h => bs (m_sI (by decide +kernel) (by omega) I J j v h) g,
   fun j g h => bs (m_aI (by decide +kernel) (by omega) I J j h) g,
   fun j v g h => bs (m_sI (by decide +kernel) (by omega) I J j v h) g,
   fun j g h => bs (m_aI (by decide +kernel) (by omega) I J j h) g,
   fun j v g h => bs (m_sI (by decide +kernel) (by omega) I J j v h) g,
   fun j g h => bs (m_aI (by decide +kernel) (by omega) I J j h) g,
   fun j v g h => bs (m_sI (by decide +kernel) (by omega) I J j v h) g,
   fun j g h => bs (m_aI (by decide +kernel) (by omega) I J j h) g,
   fun j v g h => bs (m_sI (by decide +kernel) (by omega) I J j v h) g,
   fun j g h => bs (m_aJ (by decide +kernel) (by omega) I J j h) g,
   fun j v g h => bs (m_sJ (by decide +kernel) (by omega) I J j v h) g,
   fun j g h => bs (m_aI (by decide +kernel) (by omega) I J j h) g,
   fun j v g h => bs (m_sI (by decide +kernel) (by omega) I J j v h) g,
   fun j g h => bs (m_aI (by decide +kernel) (by omega) I J j h) g,
   fun j v g h => bs (m_sI (by decide +kernel) (by omega) I J j v h) g,
   fun j g h => bs (m_aJ (by decide +kernel) (by omega) I J j h) g,
   fun j v g h => bs (m_sJ (by decide +kernel) (by omega) I J j v h) g⟩
/-- a coast wherever it lies -/
theorem bOK {P : Nat → Nat → Option Nat} (hP : GP P) {k : Nat} (hk : k ∈ coastL) {β : Type} (I : Nat → Nat → Int32) (J : Nat → Nat → Int64) :
    (∀ f (g : Int32 → Option β), (xgI (mm P I J) k 0 f).bind g = g (I k f)) ∧ (∀ f v (g : xM → Option β), (xpI (mm P I J) k 0 f v).bind g = g (mm P (xu I k f v) J)) ∧ (∀ (g : Unit → Option β), (xck (mm P I J) k 0).bind g = g ()) ∧
    (∀ (g : Nat → Option β), (xgP (mm P I J) k 0 0).bind g = g (k + 1)) ∧ (∀ (g : Nat → Option β), (xgP (mm P I J) k 0 1).bind g = g (k + 2)) ∧ (∀ (g : Nat → Option β), (xgP (mm P I J) k 0 2).bind g = g (k + 3)) ∧
    (∀ j (g : Int32 → Option β), j < 25 → (xaI (mm P I J) 20 (k + 1) (nI j)).bind g = g (I (k + 1) j)) ∧ (∀ j v (g : xM → Option β), j < 25 → (xsI (mm P I J) (k + 1) (nI j) v).bind g = g (mm P (xu I (k + 1) j v) J)) ∧
    (∀ j (g : Int32 → Option β), j < 6 → (xaI (mm P I J) 20 (k + 2) (nI j)).bind g = g (I (k + 2) j)) ∧ (∀ j v (g : xM → Option β), j < 6 → (xsI (mm P I J) (k + 2) (nI j) v).bind g = g (mm P (xu I (k + 2) j v) J)) ∧
    (∀ j (g : Int32 → Option β), j < 6 → (xaI (mm P I J) 20 (k + 3) (nI j)).bind g = g (I (k + 3) j)) ∧ (∀ j v (g : xM → Option β), j < 6 → (xsI (mm P I J) (k + 3) (nI j) v).bind g = g (mm P (xu I (k + 3) j v) J)) := by
  obtain ⟨h0, h1, h2, h3, h4, h5, h6⟩ := coast_sh k hk
  exact ⟨fun f g => bs (m_gI h0 I J f) g, fun f v g => bs (m_pI h0 I J f v) g, fun g => bs (m_ck h0 I J) g, fun g => bs (m_gP hP h0 h1 I J) g, fun g => bs (m_gP hP h0 h2 I J) g, fun g => bs (m_gP hP h0 h3 I J) g, fun j g h => bs (m_aI h4 (by omega) I J j h) g, fun j v g h => bs (m_sI h4 (by omega) I J j v h) g, fun j g h => bs (m_aI h5 (by omega) I J j h) g, fun j v g h => bs (m_sI h5 (by omega) I J j v h) g, fun j g h => bs (m_aI h6 (by omega) I J j h) g, fun j v g h => bs (m_sI h6 (by omega) I J j v h) g⟩
