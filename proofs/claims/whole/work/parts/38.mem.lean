/-! ===== memory of the shape that the constructors make, as a pair of tables (text written by wip/whole/gen_mem.py) ===== -/
def mm (P : Nat → Nat → Option Nat) (I : Nat → Nat → Int32) (J : Nat → Nat → Int64) : xM := (SH, I, J, P)
def GP (P : Nat → Nat → Option Nat) : Prop := ∀ q ∈ PPl, P q.1 q.2.1 = some q.2.2
theorem mm_I {P : Nat → Nat → Option Nat} {I : Nat → Nat → Int32} {J : Nat → Nat → Int64} : (mm P I J).2.1 = I := rfl
theorem mm_J {P : Nat → Nat → Option Nat} {I : Nat → Nat → Int32} {J : Nat → Nat → Int64} : (mm P I J).2.2.1 = J := rfl
theorem mm_G {P : Nat → Nat → Option Nat} {I : Nat → Nat → Int32} {J : Nat → Nat → Int64} (hP : GP P) : G (mm P I J) := ⟨rfl, hP⟩
theorem G_mm {M : xM} (h : G M) : ∃ P I J, M = mm P I J ∧ GP P := by
  obtain ⟨a, I, J, P⟩ := M
  exact ⟨P, I, J, by unfold mm; rw [show a = SH from h.1], h.2⟩
theorem thr_mm {P : Nat → Nat → Option Nat} {I : Nat → Nat → Int32} {J : Nat → Nat → Int64} : thr (mm P I J) = mm P (xu I 164 0 0) J := rfl
theorem m_gI {P : Nat → Nat → Option Nat} {k ci : Nat} (hs : (SH[k]?).map Prod.fst = some ci) (I : Nat → Nat → Int32) (J : Nat → Nat → Int64) (f : Nat) : xgI (mm P I J) k ci f = some (I k f) := if_pos hs
theorem m_pI {P : Nat → Nat → Option Nat} {k ci : Nat} (hs : (SH[k]?).map Prod.fst = some ci) (I : Nat → Nat → Int32) (J : Nat → Nat → Int64) (f : Nat) (v : Int32) : xpI (mm P I J) k ci f v = some (mm P (xu I k f v) J) := if_pos hs
theorem m_ck {P : Nat → Nat → Option Nat} {k ci : Nat} (hs : (SH[k]?).map Prod.fst = some ci) (I : Nat → Nat → Int32) (J : Nat → Nat → Int64) : xck (mm P I J) k ci = some () := if_pos hs
theorem m_gP {P : Nat → Nat → Option Nat} (hP : GP P) {k ci f v : Nat} (hs : (SH[k]?).map Prod.fst = some ci) (hv : (k, f, v) ∈ PPl) (I : Nat → Nat → Int32) (J : Nat → Nat → Int64) : xgP (mm P I J) k ci f = some v := G_gP (mm_G hP) hs hv
theorem m_aP {P : Nat → Nat → Option Nat} (hP : GP P) {k t n j v : Nat} (hs : SH[k]? = some (t, n)) (hj : j < n) (hn : n < 2 ^ 31) (hv : (k, j, v) ∈ PPl) (I : Nat → Nat → Int32) (J : Nat → Nat → Int64) : xaP (mm P I J) t k (nI j) = some v := G_aP (mm_G hP) hs rfl hj hn hv
theorem m_aI {P : Nat → Nat → Option Nat} {k t n : Nat} (hs : SH[k]? = some (t, n)) (hn : n < 2 ^ 31) (I : Nat → Nat → Int32) (J : Nat → Nat → Int64) (j : Nat) (hj : j < n) : xaI (mm P I J) t k (nI j) = some (I k j) := by
  unfold xaI xln
  rw [show (mm P I J).1 = SH from rfl, hs]
  dsimp only
  rw [if_pos rfl, Option.bind_some, if_pos (xin_nI hj hn), nI_clamp (by omega)]
  rfl
theorem m_aJ {P : Nat → Nat → Option Nat} {k n : Nat} (hs : SH[k]? = some (24, n)) (hn : n < 2 ^ 31) (I : Nat → Nat → Int32) (J : Nat → Nat → Int64) (j : Nat) (hj : j < n) : xaJ (mm P I J) k (nI j) = some (J k j) := by
  unfold xaJ xln
  rw [show (mm P I J).1 = SH from rfl, hs]
  dsimp only
  rw [if_pos rfl, Option.bind_some, if_pos (xin_nI hj hn), nI_clamp (by omega)]
  rfl
theorem m_sI {P : Nat → Nat → Option Nat} {k n : Nat} (hs : SH[k]? = some (20, n)) (hn : n < 2 ^ 31) (I : Nat → Nat → Int32) (J : Nat → Nat → Int64) (j : Nat) (v : Int32) (hj : j < n) : xsI (mm P I J) k (nI j) v = some (mm P (xu I k j v) J) := by
  unfold xsI xln
  rw [show (mm P I J).1 = SH from rfl, hs]
  dsimp only
  rw [if_pos rfl, Option.bind_some, if_pos (xin_nI hj hn), nI_clamp (by omega)]
  rfl
theorem m_sJ {P : Nat → Nat → Option Nat} {k n : Nat} (hs : SH[k]? = some (24, n)) (hn : n < 2 ^ 31) (I : Nat → Nat → Int32) (J : Nat → Nat → Int64) (j : Nat) (v : Int64) (hj : j < n) : xsJ (mm P I J) k (nI j) v = some (mm P I (xu J k j v)) := by
  unfold xsJ xln
  rw [show (mm P I J).1 = SH from rfl, hs]
  dsimp only
  rw [if_pos rfl, Option.bind_some, if_pos (xin_nI hj hn), nI_clamp (by omega)]
  rfl

/-- the class: objects -/
theorem OC {P : Nat → Nat → Option Nat} (hP : GP P) (I : Nat → Nat → Int32) (J : Nat → Nat → Int64) :
    (∀ f, xgI (mm P I J) 0 11 f = some (I 0 f)) ∧
    (∀ f v, xpI (mm P I J) 0 11 f v = some (mm P (xu I 0 f v) J)) ∧
    (xck (mm P I J) 0 11 = some ()) ∧
    (xgP (mm P I J) 0 11 1 = some 1) ∧
    (xgP (mm P I J) 0 11 2 = some 14) ∧
    (xgP (mm P I J) 0 11 3 = some 21) ∧
    (xgP (mm P I J) 0 11 4 = some 25) ∧
    (xgP (mm P I J) 0 11 5 = some 29) ∧
    (xgP (mm P I J) 0 11 6 = some 35) ∧
    (xgP (mm P I J) 0 11 7 = some 81) ∧
    (xgP (mm P I J) 0 11 8 = some 90) ∧
    (xgP (mm P I J) 0 11 9 = some 91) ∧
    (xgP (mm P I J) 0 11 11 = some 114) ∧
    (xgP (mm P I J) 0 11 12 = some 120) ∧
    (xgP (mm P I J) 0 11 13 = some 122) ∧
    (xgP (mm P I J) 0 11 14 = some 124) ∧
    (xgP (mm P I J) 0 11 15 = some 125) ∧
    (∀ f, xgI (mm P I J) 14 3 f = some (I 14 f)) ∧
    (∀ f v, xpI (mm P I J) 14 3 f v = some (mm P (xu I 14 f v) J)) ∧
    (xck (mm P I J) 14 3 = some ()) ∧
    (xgP (mm P I J) 14 3 12 = some 15) ∧
    (xgP (mm P I J) 14 3 13 = some 16) ∧
    (xgP (mm P I J) 14 3 14 = some 17) ∧
    (xgP (mm P I J) 14 3 15 = some 18) ∧
    (xgP (mm P I J) 14 3 16 = some 19) ∧
    (xgP (mm P I J) 14 3 17 = some 20) ∧
    (∀ f, xgI (mm P I J) 21 0 f = some (I 21 f)) ∧
    (∀ f v, xpI (mm P I J) 21 0 f v = some (mm P (xu I 21 f v) J)) ∧
    (xck (mm P I J) 21 0 = some ()) ∧
    (xgP (mm P I J) 21 0 0 = some 22) ∧
    (xgP (mm P I J) 21 0 1 = some 23) ∧
    (xgP (mm P I J) 21 0 2 = some 24) ∧
    (∀ f, xgI (mm P I J) 25 0 f = some (I 25 f)) ∧
    (∀ f v, xpI (mm P I J) 25 0 f v = some (mm P (xu I 25 f v) J)) ∧
    (xck (mm P I J) 25 0 = some ()) ∧
    (xgP (mm P I J) 25 0 0 = some 26) ∧
    (xgP (mm P I J) 25 0 1 = some 27) ∧
    (xgP (mm P I J) 25 0 2 = some 28) ∧
    (∀ f, xgI (mm P I J) 29 8 f = some (I 29 f)) ∧
    (∀ f v, xpI (mm P I J) 29 8 f v = some (mm P (xu I 29 f v) J)) ∧
    (xck (mm P I J) 29 8 = some ()) ∧
    (xgP (mm P I J) 29 8 0 = some 30) ∧
    (xgP (mm P I J) 29 8 1 = some 33) ∧
    (xgP (mm P I J) 29 8 2 = some 34) ∧
    (∀ f, xgI (mm P I J) 30 4 f = some (I 30 f)) ∧
    (∀ f v, xpI (mm P I J) 30 4 f v = some (mm P (xu I 30 f v) J)) ∧
    (xck (mm P I J) 30 4 = some ()) ∧
    (xgP (mm P I J) 30 4 0 = some 31) ∧
    (xgP (mm P I J) 30 4 1 = some 32) ∧
    (∀ f, xgI (mm P I J) 35 5 f = some (I 35 f)) ∧
    (∀ f v, xpI (mm P I J) 35 5 f v = some (mm P (xu I 35 f v) J)) ∧
    (xck (mm P I J) 35 5 = some ()) ∧
    (xgP (mm P I J) 35 5 2 = some 36) :=
  ⟨m_gI (by decide +kernel) I J,
   m_pI (by decide +kernel) I J,
   m_ck (by decide +kernel) I J,
   m_gP hP (by decide +kernel) (by decide +kernel) I J,
   m_gP hP (by decide +kernel) (by decide +kernel) I J,
   m_gP hP (by decide +kernel) (by decide +kernel) I J,
   m_gP hP (by decide +kernel) (by decide +kernel) I J,
   m_gP hP (by decide +kernel) (by decide +kernel) I J,
   m_gP hP (by decide +kernel) (by decide +kernel) I J,
   m_gP hP (by decide +kernel) (by decide +kernel) I J,
   m_gP hP (by decide +kernel) (by decide +kernel) I J,
   m_gP hP (by decide +kernel) (by decide +kernel) I J,
   m_gP hP (by decide +kernel) (by decide +kernel) I J,
   m_gP hP (by decide +kernel) (by decide +kernel) I J,
   m_gP hP (by decide +kernel) (by decide +kernel) I J,
   m_gP hP (by decide +kernel) (by decide +kernel) I J,
   m_gP hP (by decide +kernel) (by decide +kernel) I J,
   m_gI (by decide +kernel) I J,
   m_pI (by decide +kernel) I J,
   m_ck (by decide +kernel) I J,
   m_gP hP (by decide +kernel) (by decide +kernel) I J,
   m_gP hP (by decide +kernel) (by decide +kernel) I J,
   m_gP hP (by decide +kernel) (by decide +kernel) I J,
   m_gP hP (by decide +kernel) (by decide +kernel) I J,
   m_gP hP (by decide +kernel) (by decide +kernel) I J,
   m_gP hP (by decide +kernel) (by decide +kernel) I J,
   m_gI (by decide +kernel) I J,
   m_pI (by decide +kernel) I J,
   m_ck (by decide +kernel) I J,
   m_gP hP (by decide +kernel) (by decide +kernel) I J,
   m_gP hP (by decide +kernel) (by decide +kernel) I J,
   m_gP hP (by decide +kernel) (by decide +kernel) I J,
   m_gI (by decide +kernel) I J,
   m_pI (by decide +kernel) I J,
   m_ck (by decide +kernel) I J,
   m_gP hP (by decide +kernel) (by decide +kernel) I J,
   m_gP hP (by decide +kernel) (by decide +kernel) I J,
   m_gP hP (by decide +kernel) (by decide +kernel) I J,
   m_gI (by decide +kernel) I J,
   m_pI (by decide +kernel) I J,
   m_ck (by decide +kernel) I J,
   m_gP hP (by decide +kernel) (by decide +kernel) I J,
   m_gP hP (by decide +kernel) (by decide +kernel) I J,
   m_gP hP (by decide +kernel) (by decide +kernel) I J,
   m_gI (by decide +kernel) I J,
   m_pI (by decide +kernel) I J,
   m_ck (by decide +kernel) I J,
   m_gP hP (by decide +kernel) (by decide +kernel) I J,
   m_gP hP (by decide +kernel) (by decide +kernel) I J,
   m_gI (by decide +kernel) I J,
   m_pI (by decide +kernel) I J,
   m_ck (by decide +kernel) I J,
   m_gP hP (by decide +kernel) (by decide +kernel) I J⟩
/-- the reader -/
theorem OR {P : Nat → Nat → Option Nat} (hP : GP P) (I : Nat → Nat → Int32) (J : Nat → Nat → Int64) :
    (∀ f, xgI (mm P I J) 1 7 f = some (I 1 f)) ∧
    (∀ f v, xpI (mm P I J) 1 7 f v = some (mm P (xu I 1 f v) J)) ∧
    (xck (mm P I J) 1 7 = some ()) ∧
    (xgP (mm P I J) 1 7 0 = some 3) ∧
    (xgP (mm P I J) 1 7 1 = some 10) ∧
    (xgP (mm P I J) 1 7 4 = some 2) ∧
    (∀ f, xgI (mm P I J) 3 3 f = some (I 3 f)) ∧
    (∀ f v, xpI (mm P I J) 3 3 f v = some (mm P (xu I 3 f v) J)) ∧
    (xck (mm P I J) 3 3 = some ()) ∧
    (xgP (mm P I J) 3 3 12 = some 4) ∧
    (xgP (mm P I J) 3 3 13 = some 5) ∧
    (xgP (mm P I J) 3 3 14 = some 6) ∧
    (xgP (mm P I J) 3 3 15 = some 7) ∧
    (xgP (mm P I J) 3 3 16 = some 8) ∧
    (xgP (mm P I J) 3 3 17 = some 9) ∧
    (∀ f, xgI (mm P I J) 10 0 f = some (I 10 f)) ∧
    (∀ f v, xpI (mm P I J) 10 0 f v = some (mm P (xu I 10 f v) J)) ∧
    (xck (mm P I J) 10 0 = some ()) ∧
    (xgP (mm P I J) 10 0 0 = some 11) ∧
    (xgP (mm P I J) 10 0 1 = some 12) ∧
    (xgP (mm P I J) 10 0 2 = some 13) :=
  ⟨m_gI (by decide +kernel) I J,
   m_pI (by decide +kernel) I J,
   m_ck (by decide +kernel) I J,
   m_gP hP (by decide +kernel) (by decide +kernel) I J,
   m_gP hP (by decide +kernel) (by decide +kernel) I J,
   m_gP hP (by decide +kernel) (by decide +kernel) I J,
   m_gI (by decide +kernel) I J,
   m_pI (by decide +kernel) I J,
   m_ck (by decide +kernel) I J,
   m_gP hP (by decide +kernel) (by decide +kernel) I J,
   m_gP hP (by decide +kernel) (by decide +kernel) I J,
   m_gP hP (by decide +kernel) (by decide +kernel) I J,
   m_gP hP (by decide +kernel) (by decide +kernel) I J,
   m_gP hP (by decide +kernel) (by decide +kernel) I J,
   m_gP hP (by decide +kernel) (by decide +kernel) I J,
   m_gI (by decide +kernel) I J,
   m_pI (by decide +kernel) I J,
   m_ck (by decide +kernel) I J,
   m_gP hP (by decide +kernel) (by decide +kernel) I J,
   m_gP hP (by decide +kernel) (by decide +kernel) I J,
   m_gP hP (by decide +kernel) (by decide +kernel) I J⟩
/-- dike, planner, sheets, gales -/
theorem OX {P : Nat → Nat → Option Nat} (hP : GP P) (I : Nat → Nat → Int32) (J : Nat → Nat → Int64) :
    (∀ f, xgI (mm P I J) 114 1 f = some (I 114 f)) ∧
    (∀ f v, xpI (mm P I J) 114 1 f v = some (mm P (xu I 114 f v) J)) ∧
    (xck (mm P I J) 114 1 = some ()) ∧
    (xgP (mm P I J) 114 1 0 = some 115) ∧
    (xgP (mm P I J) 114 1 1 = some 116) ∧
    (xgP (mm P I J) 114 1 2 = some 117) ∧
    (xgP (mm P I J) 114 1 3 = some 118) ∧
    (xgP (mm P I J) 114 1 4 = some 119) ∧
    (∀ f, xgI (mm P I J) 120 6 f = some (I 120 f)) ∧
    (∀ f v, xpI (mm P I J) 120 6 f v = some (mm P (xu I 120 f v) J)) ∧
    (xck (mm P I J) 120 6 = some ()) ∧
    (xgP (mm P I J) 120 6 0 = some 121) ∧
    (∀ f, xgI (mm P I J) 122 9 f = some (I 122 f)) ∧
    (∀ f v, xpI (mm P I J) 122 9 f v = some (mm P (xu I 122 f v) J)) ∧
    (xck (mm P I J) 122 9 = some ()) ∧
    (xgP (mm P I J) 122 9 0 = some 123) ∧
    (∀ f, xgI (mm P I J) 125 2 f = some (I 125 f)) ∧
    (∀ f v, xpI (mm P I J) 125 2 f v = some (mm P (xu I 125 f v) J)) ∧
    (xck (mm P I J) 125 2 = some ()) ∧
    (xgP (mm P I J) 125 2 0 = some 126) ∧
    (xgP (mm P I J) 125 2 1 = some 127) :=
  ⟨m_gI (by decide +kernel) I J,
   m_pI (by decide +kernel) I J,
   m_ck (by decide +kernel) I J,
   m_gP hP (by decide +kernel) (by decide +kernel) I J,
   m_gP hP (by decide +kernel) (by decide +kernel) I J,
   m_gP hP (by decide +kernel) (by decide +kernel) I J,
   m_gP hP (by decide +kernel) (by decide +kernel) I J,
   m_gP hP (by decide +kernel) (by decide +kernel) I J,
   m_gI (by decide +kernel) I J,
   m_pI (by decide +kernel) I J,
   m_ck (by decide +kernel) I J,
   m_gP hP (by decide +kernel) (by decide +kernel) I J,
   m_gI (by decide +kernel) I J,
   m_pI (by decide +kernel) I J,
   m_ck (by decide +kernel) I J,
   m_gP hP (by decide +kernel) (by decide +kernel) I J,
   m_gI (by decide +kernel) I J,
   m_pI (by decide +kernel) I J,
   m_ck (by decide +kernel) I J,
   m_gP hP (by decide +kernel) (by decide +kernel) I J,
   m_gP hP (by decide +kernel) (by decide +kernel) I J⟩
/-- the model: object -/
theorem OM {P : Nat → Nat → Option Nat} (hP : GP P) (I : Nat → Nat → Int32) (J : Nat → Nat → Int64) :
    (∀ f, xgI (mm P I J) 164 12 f = some (I 164 f)) ∧
    (∀ f v, xpI (mm P I J) 164 12 f v = some (mm P (xu I 164 f v) J)) ∧
    (xck (mm P I J) 164 12 = some ()) ∧
    (xgP (mm P I J) 164 12 1 = some 165) ∧
    (xgP (mm P I J) 164 12 2 = some 166) ∧
    (xgP (mm P I J) 164 12 3 = some 167) ∧
    (xgP (mm P I J) 164 12 4 = some 168) ∧
    (xgP (mm P I J) 164 12 16 = some 169) ∧
    (xgP (mm P I J) 164 12 17 = some 170) ∧
    (xgP (mm P I J) 164 12 18 = some 171) ∧
    (xgP (mm P I J) 164 12 19 = some 172) ∧
    (xgP (mm P I J) 164 12 22 = some 173) ∧
    (xgP (mm P I J) 164 12 25 = some 174) ∧
    (xgP (mm P I J) 164 12 26 = some 175) ∧
    (xgP (mm P I J) 164 12 27 = some 176) ∧
    (xgP (mm P I J) 164 12 28 = some 177) ∧
    (xgP (mm P I J) 164 12 29 = some 178) ∧
    (xgP (mm P I J) 164 12 30 = some 179) ∧
    (xgP (mm P I J) 164 12 31 = some 180) ∧
    (xgP (mm P I J) 164 12 32 = some 181) ∧
    (xgP (mm P I J) 164 12 33 = some 182) ∧
    (xgP (mm P I J) 164 12 34 = some 183) ∧
    (xgP (mm P I J) 164 12 35 = some 184) :=
  ⟨m_gI (by decide +kernel) I J,
   m_pI (by decide +kernel) I J,
   m_ck (by decide +kernel) I J,
   m_gP hP (by decide +kernel) (by decide +kernel) I J,
   m_gP hP (by decide +kernel) (by decide +kernel) I J,
   m_gP hP (by decide +kernel) (by decide +kernel) I J,
   m_gP hP (by decide +kernel) (by decide +kernel) I J,
   m_gP hP (by decide +kernel) (by decide +kernel) I J,
   m_gP hP (by decide +kernel) (by decide +kernel) I J,
   m_gP hP (by decide +kernel) (by decide +kernel) I J,
   m_gP hP (by decide +kernel) (by decide +kernel) I J,
   m_gP hP (by decide +kernel) (by decide +kernel) I J,
   m_gP hP (by decide +kernel) (by decide +kernel) I J,
   m_gP hP (by decide +kernel) (by decide +kernel) I J,
   m_gP hP (by decide +kernel) (by decide +kernel) I J,
   m_gP hP (by decide +kernel) (by decide +kernel) I J,
   m_gP hP (by decide +kernel) (by decide +kernel) I J,
   m_gP hP (by decide +kernel) (by decide +kernel) I J,
   m_gP hP (by decide +kernel) (by decide +kernel) I J,
   m_gP hP (by decide +kernel) (by decide +kernel) I J,
   m_gP hP (by decide +kernel) (by decide +kernel) I J,
   m_gP hP (by decide +kernel) (by decide +kernel) I J,
   m_gP hP (by decide +kernel) (by decide +kernel) I J⟩
/-- the class: arrays -/
theorem AC {P : Nat → Nat → Option Nat} (I : Nat → Nat → Int32) (J : Nat → Nat → Int64) :
    (∀ j, j < 6 → xaI (mm P I J) 20 15 (nI j) = some (I 15 j)) ∧
    (∀ j v, j < 6 → xsI (mm P I J) 15 (nI j) v = some (mm P (xu I 15 j v) J)) ∧
    (∀ j, j < 6 → xaI (mm P I J) 20 16 (nI j) = some (I 16 j)) ∧
    (∀ j v, j < 6 → xsI (mm P I J) 16 (nI j) v = some (mm P (xu I 16 j v) J)) ∧
    (∀ j, j < 6 → xaI (mm P I J) 20 17 (nI j) = some (I 17 j)) ∧
    (∀ j v, j < 6 → xsI (mm P I J) 17 (nI j) v = some (mm P (xu I 17 j v) J)) ∧
    (∀ j, j < 6 → xaI (mm P I J) 20 18 (nI j) = some (I 18 j)) ∧
    (∀ j v, j < 6 → xsI (mm P I J) 18 (nI j) v = some (mm P (xu I 18 j v) J)) ∧
    (∀ j, j < 5 → xaI (mm P I J) 20 19 (nI j) = some (I 19 j)) ∧
    (∀ j v, j < 5 → xsI (mm P I J) 19 (nI j) v = some (mm P (xu I 19 j v) J)) ∧
    (∀ j, j < 900 → xaI (mm P I J) 20 20 (nI j) = some (I 20 j)) ∧
    (∀ j v, j < 900 → xsI (mm P I J) 20 (nI j) v = some (mm P (xu I 20 j v) J)) ∧
    (∀ j, j < 25 → xaI (mm P I J) 20 22 (nI j) = some (I 22 j)) ∧
    (∀ j v, j < 25 → xsI (mm P I J) 22 (nI j) v = some (mm P (xu I 22 j v) J)) ∧
    (∀ j, j < 6 → xaI (mm P I J) 20 23 (nI j) = some (I 23 j)) ∧
    (∀ j v, j < 6 → xsI (mm P I J) 23 (nI j) v = some (mm P (xu I 23 j v) J)) ∧
    (∀ j, j < 6 → xaI (mm P I J) 20 24 (nI j) = some (I 24 j)) ∧
    (∀ j v, j < 6 → xsI (mm P I J) 24 (nI j) v = some (mm P (xu I 24 j v) J)) ∧
    (∀ j, j < 25 → xaI (mm P I J) 20 26 (nI j) = some (I 26 j)) ∧
    (∀ j v, j < 25 → xsI (mm P I J) 26 (nI j) v = some (mm P (xu I 26 j v) J)) ∧
    (∀ j, j < 6 → xaI (mm P I J) 20 27 (nI j) = some (I 27 j)) ∧
    (∀ j v, j < 6 → xsI (mm P I J) 27 (nI j) v = some (mm P (xu I 27 j v) J)) ∧
    (∀ j, j < 6 → xaI (mm P I J) 20 28 (nI j) = some (I 28 j)) ∧
    (∀ j v, j < 6 → xsI (mm P I J) 28 (nI j) v = some (mm P (xu I 28 j v) J)) ∧
    (∀ j, j < 6 → xaI (mm P I J) 20 31 (nI j) = some (I 31 j)) ∧
    (∀ j v, j < 6 → xsI (mm P I J) 31 (nI j) v = some (mm P (xu I 31 j v) J)) ∧
    (xaI (mm P I J) 20 31 0 = some (I 31 0)) ∧
    (∀ v, xsI (mm P I J) 31 0 v = some (mm P (xu I 31 0 v) J)) ∧
    (xaI (mm P I J) 20 31 1 = some (I 31 1)) ∧
    (∀ v, xsI (mm P I J) 31 1 v = some (mm P (xu I 31 1 v) J)) ∧
    (xaI (mm P I J) 20 31 2 = some (I 31 2)) ∧
    (∀ v, xsI (mm P I J) 31 2 v = some (mm P (xu I 31 2 v) J)) ∧
    (xaI (mm P I J) 20 31 3 = some (I 31 3)) ∧
    (∀ v, xsI (mm P I J) 31 3 v = some (mm P (xu I 31 3 v) J)) ∧
    (xaI (mm P I J) 20 31 4 = some (I 31 4)) ∧
    (∀ v, xsI (mm P I J) 31 4 v = some (mm P (xu I 31 4 v) J)) ∧
    (xaI (mm P I J) 20 31 5 = some (I 31 5)) ∧
    (∀ v, xsI (mm P I J) 31 5 v = some (mm P (xu I 31 5 v) J)) ∧
    (∀ j, j < 100 → xaI (mm P I J) 20 32 (nI j) = some (I 32 j)) ∧
    (∀ j v, j < 100 → xsI (mm P I J) 32 (nI j) v = some (mm P (xu I 32 j v) J)) ∧
    (∀ j, j < 25 → xaI (mm P I J) 20 33 (nI j) = some (I 33 j)) ∧
    (∀ j v, j < 25 → xsI (mm P I J) 33 (nI j) v = some (mm P (xu I 33 j v) J)) ∧
    (∀ j, j < 11 → xaI (mm P I J) 20 34 (nI j) = some (I 34 j)) ∧
    (∀ j v, j < 11 → xsI (mm P I J) 34 (nI j) v = some (mm P (xu I 34 j v) J)) ∧
    (∀ j, j < 32 → xaI (mm P I J) 20 124 (nI j) = some (I 124 j)) ∧
    (∀ j v, j < 32 → xsI (mm P I J) 124 (nI j) v = some (mm P (xu I 124 j v) J)) :=
  ⟨m_aI (by decide +kernel) (by omega) I J,
   m_sI (by decide +kernel) (by omega) I J,
   m_aI (by decide +kernel) (by omega) I J,
   m_sI (by decide +kernel) (by omega) I J,
   m_aI (by decide +kernel) (by omega) I J,
   m_sI (by decide +kernel) (by omega) I J,
   m_aI (by decide +kernel) (by omega) I J,
   m_sI (by decide +kernel) (by omega) I J,
   m_aI (by decide +kernel) (by omega) I J,
   m_sI (by decide +kernel) (by omega) I J,
   m_aI (by decide +kernel) (by omega) I J,
   m_sI (by decide +kernel) (by omega) I J,
   m_aI (by decide +kernel) (by omega) I J,
   m_sI (by decide +kernel) (by omega) I J,
   m_aI (by decide +kernel) (by omega) I J,
   m_sI (by decide +kernel) (by omega) I J,
   m_aI (by decide +kernel) (by omega) I J,
   m_sI (by decide +kernel) (by omega) I J,
   m_aI (by decide +kernel) (by omega) I J,
   m_sI (by decide +kernel) (by omega) I J,
   m_aI (by decide +kernel) (by omega) I J,
   m_sI (by decide +kernel) (by omega) I J,
   m_aI (by decide +kernel) (by omega) I J,
   m_sI (by decide +kernel) (by omega) I J,
   m_aI (by decide +kernel) (by omega) I J,
   m_sI (by decide +kernel) (by omega) I J,
   m_aI (n := 6) (by decide +kernel) (by omega) I J 0 (by omega),
   fun v => m_sI (n := 6) (by decide +kernel) (by omega) I J 0 v (by omega),
   m_aI (n := 6) (by decide +kernel) (by omega) I J 1 (by omega),
   fun v => m_sI (n := 6) (by decide +kernel) (by omega) I J 1 v (by omega),
   m_aI (n := 6) (by decide +kernel) (by omega) I J 2 (by omega),
   fun v => m_sI (n := 6) (by decide +kernel) (by omega) I J 2 v (by omega),
   m_aI (n := 6) (by decide +kernel) (by omega) I J 3 (by omega),
   fun v => m_sI (n := 6) (by decide +kernel) (by omega) I J 3 v (by omega),
   m_aI (n := 6) (by decide +kernel) (by omega) I J 4 (by omega),
   fun v => m_sI (n := 6) (by decide +kernel) (by omega) I J 4 v (by omega),
   m_aI (n := 6) (by decide +kernel) (by omega) I J 5 (by omega),
   fun v => m_sI (n := 6) (by decide +kernel) (by omega) I J 5 v (by omega),
   m_aI (by decide +kernel) (by omega) I J,
   m_sI (by decide +kernel) (by omega) I J,
   m_aI (by decide +kernel) (by omega) I J,
   m_sI (by decide +kernel) (by omega) I J,
   m_aI (by decide +kernel) (by omega) I J,
   m_sI (by decide +kernel) (by omega) I J,
   m_aI (by decide +kernel) (by omega) I J,
   m_sI (by decide +kernel) (by omega) I J⟩
/-- dike, planner, sheets, gales: arrays -/
theorem AX {P : Nat → Nat → Option Nat} (I : Nat → Nat → Int32) (J : Nat → Nat → Int64) :
    (∀ j, j < 25 → xaI (mm P I J) 20 115 (nI j) = some (I 115 j)) ∧
    (∀ j v, j < 25 → xsI (mm P I J) 115 (nI j) v = some (mm P (xu I 115 j v) J)) ∧
    (∀ j, j < 25 → xaI (mm P I J) 20 116 (nI j) = some (I 116 j)) ∧
    (∀ j v, j < 25 → xsI (mm P I J) 116 (nI j) v = some (mm P (xu I 116 j v) J)) ∧
    (∀ j, j < 625 → xaI (mm P I J) 20 117 (nI j) = some (I 117 j)) ∧
    (∀ j v, j < 625 → xsI (mm P I J) 117 (nI j) v = some (mm P (xu I 117 j v) J)) ∧
    (∀ j, j < 50 → xaI (mm P I J) 20 118 (nI j) = some (I 118 j)) ∧
    (∀ j v, j < 50 → xsI (mm P I J) 118 (nI j) v = some (mm P (xu I 118 j v) J)) ∧
    (∀ j, j < 50 → xaI (mm P I J) 20 119 (nI j) = some (I 119 j)) ∧
    (∀ j v, j < 50 → xsI (mm P I J) 119 (nI j) v = some (mm P (xu I 119 j v) J)) ∧
    (∀ j, j < 6 → xaI (mm P I J) 20 121 (nI j) = some (I 121 j)) ∧
    (∀ j v, j < 6 → xsI (mm P I J) 121 (nI j) v = some (mm P (xu I 121 j v) J)) ∧
    (∀ j, j < 6 → xaI (mm P I J) 20 123 (nI j) = some (I 123 j)) ∧
    (∀ j v, j < 6 → xsI (mm P I J) 123 (nI j) v = some (mm P (xu I 123 j v) J)) ∧
    (∀ j, j < 6 → xaJ (mm P I J) 126 (nI j) = some (J 126 j)) ∧
    (∀ j v, j < 6 → xsJ (mm P I J) 126 (nI j) v = some (mm P I (xu J 126 j v))) :=
  ⟨m_aI (by decide +kernel) (by omega) I J,
   m_sI (by decide +kernel) (by omega) I J,
   m_aI (by decide +kernel) (by omega) I J,
   m_sI (by decide +kernel) (by omega) I J,
   m_aI (by decide +kernel) (by omega) I J,
   m_sI (by decide +kernel) (by omega) I J,
   m_aI (by decide +kernel) (by omega) I J,
   m_sI (by decide +kernel) (by omega) I J,
   m_aI (by decide +kernel) (by omega) I J,
   m_sI (by decide +kernel) (by omega) I J,
   m_aI (by decide +kernel) (by omega) I J,
   m_sI (by decide +kernel) (by omega) I J,
   m_aI (by decide +kernel) (by omega) I J,
   m_sI (by decide +kernel) (by omega) I J,
   m_aJ (by decide +kernel) (by omega) I J,
   m_sJ (by decide +kernel) (by omega) I J⟩
/-- the model: arrays -/
theorem AM {P : Nat → Nat → Option Nat} (I : Nat → Nat → Int32) (J : Nat → Nat → Int64) :
    (∀ j, j < 4260 → xaI (mm P I J) 20 165 (nI j) = some (I 165 j)) ∧
    (∀ j v, j < 4260 → xsI (mm P I J) 165 (nI j) v = some (mm P (xu I 165 j v) J)) ∧
    (xaI (mm P I J) 20 165 0 = some (I 165 0)) ∧
    (∀ v, xsI (mm P I J) 165 0 v = some (mm P (xu I 165 0 v) J)) ∧
    (xaI (mm P I J) 20 165 1 = some (I 165 1)) ∧
    (∀ v, xsI (mm P I J) 165 1 v = some (mm P (xu I 165 1 v) J)) ∧
    (xaI (mm P I J) 20 165 2 = some (I 165 2)) ∧
    (∀ v, xsI (mm P I J) 165 2 v = some (mm P (xu I 165 2 v) J)) ∧
    (xaI (mm P I J) 20 165 3 = some (I 165 3)) ∧
    (∀ v, xsI (mm P I J) 165 3 v = some (mm P (xu I 165 3 v) J)) ∧
    (xaI (mm P I J) 20 165 4 = some (I 165 4)) ∧
    (∀ v, xsI (mm P I J) 165 4 v = some (mm P (xu I 165 4 v) J)) ∧
    (xaI (mm P I J) 20 165 5 = some (I 165 5)) ∧
    (∀ v, xsI (mm P I J) 165 5 v = some (mm P (xu I 165 5 v) J)) ∧
    (xaI (mm P I J) 20 165 6 = some (I 165 6)) ∧
    (∀ v, xsI (mm P I J) 165 6 v = some (mm P (xu I 165 6 v) J)) ∧
    (xaI (mm P I J) 20 165 7 = some (I 165 7)) ∧
    (∀ v, xsI (mm P I J) 165 7 v = some (mm P (xu I 165 7 v) J)) ∧
    (xaI (mm P I J) 20 165 8 = some (I 165 8)) ∧
    (∀ v, xsI (mm P I J) 165 8 v = some (mm P (xu I 165 8 v) J)) ∧
    (xaI (mm P I J) 20 165 9 = some (I 165 9)) ∧
    (∀ v, xsI (mm P I J) 165 9 v = some (mm P (xu I 165 9 v) J)) ∧
    (xaI (mm P I J) 20 165 10 = some (I 165 10)) ∧
    (∀ v, xsI (mm P I J) 165 10 v = some (mm P (xu I 165 10 v) J)) ∧
    (xaI (mm P I J) 20 165 11 = some (I 165 11)) ∧
    (∀ v, xsI (mm P I J) 165 11 v = some (mm P (xu I 165 11 v) J)) ∧
    (xaI (mm P I J) 20 165 12 = some (I 165 12)) ∧
    (∀ v, xsI (mm P I J) 165 12 v = some (mm P (xu I 165 12 v) J)) ∧
    (xaI (mm P I J) 20 165 92 = some (I 165 92)) ∧
    (∀ v, xsI (mm P I J) 165 92 v = some (mm P (xu I 165 92 v) J)) ∧
    (xaI (mm P I J) 20 165 105 = some (I 165 105)) ∧
    (∀ v, xsI (mm P I J) 165 105 v = some (mm P (xu I 165 105 v) J)) ∧
    (xaI (mm P I J) 20 165 106 = some (I 165 106)) ∧
    (∀ v, xsI (mm P I J) 165 106 v = some (mm P (xu I 165 106 v) J)) ∧
    (xaI (mm P I J) 20 165 107 = some (I 165 107)) ∧
    (∀ v, xsI (mm P I J) 165 107 v = some (mm P (xu I 165 107 v) J)) ∧
    (xaI (mm P I J) 20 165 108 = some (I 165 108)) ∧
    (∀ v, xsI (mm P I J) 165 108 v = some (mm P (xu I 165 108 v) J)) ∧
    (xaI (mm P I J) 20 165 519 = some (I 165 519)) ∧
    (∀ v, xsI (mm P I J) 165 519 v = some (mm P (xu I 165 519 v) J)) ∧
    (∀ j, j < 900 → xaI (mm P I J) 20 167 (nI j) = some (I 167 j)) ∧
    (∀ j v, j < 900 → xsI (mm P I J) 167 (nI j) v = some (mm P (xu I 167 j v) J)) ∧
    (∀ j, j < 1420 → xaI (mm P I J) 20 168 (nI j) = some (I 168 j)) ∧
    (∀ j v, j < 1420 → xsI (mm P I J) 168 (nI j) v = some (mm P (xu I 168 j v) J)) ∧
    (xaI (mm P I J) 20 168 0 = some (I 168 0)) ∧
    (∀ v, xsI (mm P I J) 168 0 v = some (mm P (xu I 168 0 v) J)) ∧
    (xaI (mm P I J) 20 168 1 = some (I 168 1)) ∧
    (∀ v, xsI (mm P I J) 168 1 v = some (mm P (xu I 168 1 v) J)) ∧
    (xaI (mm P I J) 20 168 2 = some (I 168 2)) ∧
    (∀ v, xsI (mm P I J) 168 2 v = some (mm P (xu I 168 2 v) J)) ∧
    (xaI (mm P I J) 20 168 3 = some (I 168 3)) ∧
    (∀ v, xsI (mm P I J) 168 3 v = some (mm P (xu I 168 3 v) J)) ∧
    (xaI (mm P I J) 20 168 4 = some (I 168 4)) ∧
    (∀ v, xsI (mm P I J) 168 4 v = some (mm P (xu I 168 4 v) J)) ∧
    (xaI (mm P I J) 20 168 5 = some (I 168 5)) ∧
    (∀ v, xsI (mm P I J) 168 5 v = some (mm P (xu I 168 5 v) J)) ∧
    (xaI (mm P I J) 20 168 6 = some (I 168 6)) ∧
    (∀ v, xsI (mm P I J) 168 6 v = some (mm P (xu I 168 6 v) J)) ∧
    (xaI (mm P I J) 20 168 7 = some (I 168 7)) ∧
    (∀ v, xsI (mm P I J) 168 7 v = some (mm P (xu I 168 7 v) J)) ∧
    (xaI (mm P I J) 20 168 8 = some (I 168 8)) ∧
    (∀ v, xsI (mm P I J) 168 8 v = some (mm P (xu I 168 8 v) J)) ∧
    (xaI (mm P I J) 20 168 9 = some (I 168 9)) ∧
    (∀ v, xsI (mm P I J) 168 9 v = some (mm P (xu I 168 9 v) J)) ∧
    (xaI (mm P I J) 20 168 10 = some (I 168 10)) ∧
    (∀ v, xsI (mm P I J) 168 10 v = some (mm P (xu I 168 10 v) J)) ∧
    (xaI (mm P I J) 20 168 11 = some (I 168 11)) ∧
    (∀ v, xsI (mm P I J) 168 11 v = some (mm P (xu I 168 11 v) J)) ∧
    (xaI (mm P I J) 20 168 12 = some (I 168 12)) ∧
    (∀ v, xsI (mm P I J) 168 12 v = some (mm P (xu I 168 12 v) J)) ∧
    (xaI (mm P I J) 20 168 92 = some (I 168 92)) ∧
    (∀ v, xsI (mm P I J) 168 92 v = some (mm P (xu I 168 92 v) J)) ∧
    (xaI (mm P I J) 20 168 105 = some (I 168 105)) ∧
    (∀ v, xsI (mm P I J) 168 105 v = some (mm P (xu I 168 105 v) J)) ∧
    (xaI (mm P I J) 20 168 106 = some (I 168 106)) ∧
    (∀ v, xsI (mm P I J) 168 106 v = some (mm P (xu I 168 106 v) J)) ∧
    (xaI (mm P I J) 20 168 107 = some (I 168 107)) ∧
    (∀ v, xsI (mm P I J) 168 107 v = some (mm P (xu I 168 107 v) J)) ∧
    (xaI (mm P I J) 20 168 108 = some (I 168 108)) ∧
    (∀ v, xsI (mm P I J) 168 108 v = some (mm P (xu I 168 108 v) J)) ∧
    (xaI (mm P I J) 20 168 519 = some (I 168 519)) ∧
    (∀ v, xsI (mm P I J) 168 519 v = some (mm P (xu I 168 519 v) J)) ∧
    (∀ j, j < 900 → xaI (mm P I J) 20 169 (nI j) = some (I 169 j)) ∧
    (∀ j v, j < 900 → xsI (mm P I J) 169 (nI j) v = some (mm P (xu I 169 j v) J)) ∧
    (∀ j, j < 6 → xaI (mm P I J) 20 170 (nI j) = some (I 170 j)) ∧
    (∀ j v, j < 6 → xsI (mm P I J) 170 (nI j) v = some (mm P (xu I 170 j v) J)) ∧
    (xaI (mm P I J) 20 170 0 = some (I 170 0)) ∧
    (∀ v, xsI (mm P I J) 170 0 v = some (mm P (xu I 170 0 v) J)) ∧
    (xaI (mm P I J) 20 170 1 = some (I 170 1)) ∧
    (∀ v, xsI (mm P I J) 170 1 v = some (mm P (xu I 170 1 v) J)) ∧
    (xaI (mm P I J) 20 170 2 = some (I 170 2)) ∧
    (∀ v, xsI (mm P I J) 170 2 v = some (mm P (xu I 170 2 v) J)) ∧
    (xaI (mm P I J) 20 170 3 = some (I 170 3)) ∧
    (∀ v, xsI (mm P I J) 170 3 v = some (mm P (xu I 170 3 v) J)) ∧
    (xaI (mm P I J) 20 170 4 = some (I 170 4)) ∧
    (∀ v, xsI (mm P I J) 170 4 v = some (mm P (xu I 170 4 v) J)) ∧
    (xaI (mm P I J) 20 170 5 = some (I 170 5)) ∧
    (∀ v, xsI (mm P I J) 170 5 v = some (mm P (xu I 170 5 v) J)) ∧
    (∀ j, j < 25 → xaI (mm P I J) 20 171 (nI j) = some (I 171 j)) ∧
    (∀ j v, j < 25 → xsI (mm P I J) 171 (nI j) v = some (mm P (xu I 171 j v) J)) ∧
    (∀ j, j < 25 → xaI (mm P I J) 20 172 (nI j) = some (I 172 j)) ∧
    (∀ j v, j < 25 → xsI (mm P I J) 172 (nI j) v = some (mm P (xu I 172 j v) J)) ∧
    (∀ j, j < 41 → xaI (mm P I J) 20 173 (nI j) = some (I 173 j)) ∧
    (∀ j v, j < 41 → xsI (mm P I J) 173 (nI j) v = some (mm P (xu I 173 j v) J)) ∧
    (xaI (mm P I J) 20 173 38 = some (I 173 38)) ∧
    (∀ v, xsI (mm P I J) 173 38 v = some (mm P (xu I 173 38 v) J)) ∧
    (xaI (mm P I J) 20 173 39 = some (I 173 39)) ∧
    (∀ v, xsI (mm P I J) 173 39 v = some (mm P (xu I 173 39 v) J)) ∧
    (xaI (mm P I J) 20 173 40 = some (I 173 40)) ∧
    (∀ v, xsI (mm P I J) 173 40 v = some (mm P (xu I 173 40 v) J)) ∧
    (∀ j, j < 2601 → xaI (mm P I J) 20 174 (nI j) = some (I 174 j)) ∧
    (∀ j v, j < 2601 → xsI (mm P I J) 174 (nI j) v = some (mm P (xu I 174 j v) J)) ∧
    (∀ j, j < 51 → xaI (mm P I J) 20 175 (nI j) = some (I 175 j)) ∧
    (∀ j v, j < 51 → xsI (mm P I J) 175 (nI j) v = some (mm P (xu I 175 j v) J)) ∧
    (∀ j, j < 51 → xaI (mm P I J) 20 176 (nI j) = some (I 176 j)) ∧
    (∀ j v, j < 51 → xsI (mm P I J) 176 (nI j) v = some (mm P (xu I 176 j v) J)) ∧
    (∀ j, j < 6 → xaI (mm P I J) 20 177 (nI j) = some (I 177 j)) ∧
    (∀ j v, j < 6 → xsI (mm P I J) 177 (nI j) v = some (mm P (xu I 177 j v) J)) ∧
    (∀ j, j < 6 → xaI (mm P I J) 20 178 (nI j) = some (I 178 j)) ∧
    (∀ j v, j < 6 → xsI (mm P I J) 178 (nI j) v = some (mm P (xu I 178 j v) J)) ∧
    (∀ j, j < 11 → xaI (mm P I J) 20 179 (nI j) = some (I 179 j)) ∧
    (∀ j v, j < 11 → xsI (mm P I J) 179 (nI j) v = some (mm P (xu I 179 j v) J)) ∧
    (∀ j, j < 225 → xaI (mm P I J) 20 180 (nI j) = some (I 180 j)) ∧
    (∀ j v, j < 225 → xsI (mm P I J) 180 (nI j) v = some (mm P (xu I 180 j v) J)) ∧
    (∀ j, j < 6 → xaJ (mm P I J) 181 (nI j) = some (J 181 j)) ∧
    (∀ j v, j < 6 → xsJ (mm P I J) 181 (nI j) v = some (mm P I (xu J 181 j v))) ∧
    (∀ j, j < 4 → xaI (mm P I J) 20 182 (nI j) = some (I 182 j)) ∧
    (∀ j v, j < 4 → xsI (mm P I J) 182 (nI j) v = some (mm P (xu I 182 j v) J)) ∧
    (∀ j, j < 4 → xaI (mm P I J) 20 183 (nI j) = some (I 183 j)) ∧
    (∀ j v, j < 4 → xsI (mm P I J) 183 (nI j) v = some (mm P (xu I 183 j v) J)) ∧
    (∀ j, j < 160 → xaJ (mm P I J) 184 (nI j) = some (J 184 j)) ∧
    (∀ j v, j < 160 → xsJ (mm P I J) 184 (nI j) v = some (mm P I (xu J 184 j v))) :=
  ⟨m_aI (by decide +kernel) (by omega) I J,
   m_sI (by decide +kernel) (by omega) I J,
   m_aI (n := 4260) (by decide +kernel) (by omega) I J 0 (by omega),
   fun v => m_sI (n := 4260) (by decide +kernel) (by omega) I J 0 v (by omega),
   m_aI (n := 4260) (by decide +kernel) (by omega) I J 1 (by omega),
   fun v => m_sI (n := 4260) (by decide +kernel) (by omega) I J 1 v (by omega),
   m_aI (n := 4260) (by decide +kernel) (by omega) I J 2 (by omega),
   fun v => m_sI (n := 4260) (by decide +kernel) (by omega) I J 2 v (by omega),
   m_aI (n := 4260) (by decide +kernel) (by omega) I J 3 (by omega),
   fun v => m_sI (n := 4260) (by decide +kernel) (by omega) I J 3 v (by omega),
   m_aI (n := 4260) (by decide +kernel) (by omega) I J 4 (by omega),
   fun v => m_sI (n := 4260) (by decide +kernel) (by omega) I J 4 v (by omega),
   m_aI (n := 4260) (by decide +kernel) (by omega) I J 5 (by omega),
   fun v => m_sI (n := 4260) (by decide +kernel) (by omega) I J 5 v (by omega),
   m_aI (n := 4260) (by decide +kernel) (by omega) I J 6 (by omega),
   fun v => m_sI (n := 4260) (by decide +kernel) (by omega) I J 6 v (by omega),
   m_aI (n := 4260) (by decide +kernel) (by omega) I J 7 (by omega),
   fun v => m_sI (n := 4260) (by decide +kernel) (by omega) I J 7 v (by omega),
   m_aI (n := 4260) (by decide +kernel) (by omega) I J 8 (by omega),
   fun v => m_sI (n := 4260) (by decide +kernel) (by omega) I J 8 v (by omega),
   m_aI (n := 4260) (by decide +kernel) (by omega) I J 9 (by omega),
   fun v => m_sI (n := 4260) (by decide +kernel) (by omega) I J 9 v (by omega),
   m_aI (n := 4260) (by decide +kernel) (by omega) I J 10 (by omega),
   fun v => m_sI (n := 4260) (by decide +kernel) (by omega) I J 10 v (by omega),
   m_aI (n := 4260) (by decide +kernel) (by omega) I J 11 (by omega),
   fun v => m_sI (n := 4260) (by decide +kernel) (by omega) I J 11 v (by omega),
   m_aI (n := 4260) (by decide +kernel) (by omega) I J 12 (by omega),
   fun v => m_sI (n := 4260) (by decide +kernel) (by omega) I J 12 v (by omega),
   m_aI (n := 4260) (by decide +kernel) (by omega) I J 92 (by omega),
   fun v => m_sI (n := 4260) (by decide +kernel) (by omega) I J 92 v (by omega),
   m_aI (n := 4260) (by decide +kernel) (by omega) I J 105 (by omega),
   fun v => m_sI (n := 4260) (by decide +kernel) (by omega) I J 105 v (by omega),
   m_aI (n := 4260) (by decide +kernel) (by omega) I J 106 (by omega),
   fun v => m_sI (n := 4260) (by decide +kernel) (by omega) I J 106 v (by omega),
   m_aI (n := 4260) (by decide +kernel) (by omega) I J 107 (by omega),
   fun v => m_sI (n := 4260) (by decide +kernel) (by omega) I J 107 v (by omega),
   m_aI (n := 4260) (by decide +kernel) (by omega) I J 108 (by omega),
   fun v => m_sI (n := 4260) (by decide +kernel) (by omega) I J 108 v (by omega),
   m_aI (n := 4260) (by decide +kernel) (by omega) I J 519 (by omega),
   fun v => m_sI (n := 4260) (by decide +kernel) (by omega) I J 519 v (by omega),
   m_aI (by decide +kernel) (by omega) I J,
   m_sI (by decide +kernel) (by omega) I J,
   m_aI (by decide +kernel) (by omega) I J,
   m_sI (by decide +kernel) (by omega) I J,
   m_aI (n := 1420) (by decide +kernel) (by omega) I J 0 (by omega),
   fun v => m_sI (n := 1420) (by decide +kernel) (by omega) I J 0 v (by omega),
   m_aI (n := 1420) (by decide +kernel) (by omega) I J 1 (by omega),
   fun v => m_sI (n := 1420) (by decide +kernel) (by omega) I J 1 v (by omega),
   m_aI (n := 1420) (by decide +kernel) (by omega) I J 2 (by omega),
   fun v => m_sI (n := 1420) (by decide +kernel) (by omega) I J 2 v (by omega),
   m_aI (n := 1420) (by decide +kernel) (by omega) I J 3 (by omega),
   fun v => m_sI (n := 1420) (by decide +kernel) (by omega) I J 3 v (by omega),
   m_aI (n := 1420) (by decide +kernel) (by omega) I J 4 (by omega),
   fun v => m_sI (n := 1420) (by decide +kernel) (by omega) I J 4 v (by omega),
   m_aI (n := 1420) (by decide +kernel) (by omega) I J 5 (by omega),
   fun v => m_sI (n := 1420) (by decide +kernel) (by omega) I J 5 v (by omega),
   m_aI (n := 1420) (by decide +kernel) (by omega) I J 6 (by omega),
   fun v => m_sI (n := 1420) (by decide +kernel) (by omega) I J 6 v (by omega),
   m_aI (n := 1420) (by decide +kernel) (by omega) I J 7 (by omega),
   fun v => m_sI (n := 1420) (by decide +kernel) (by omega) I J 7 v (by omega),
   m_aI (n := 1420) (by decide +kernel) (by omega) I J 8 (by omega),
   fun v => m_sI (n := 1420) (by decide +kernel) (by omega) I J 8 v (by omega),
   m_aI (n := 1420) (by decide +kernel) (by omega) I J 9 (by omega),
   fun v => m_sI (n := 1420) (by decide +kernel) (by omega) I J 9 v (by omega),
   m_aI (n := 1420) (by decide +kernel) (by omega) I J 10 (by omega),
   fun v => m_sI (n := 1420) (by decide +kernel) (by omega) I J 10 v (by omega),
   m_aI (n := 1420) (by decide +kernel) (by omega) I J 11 (by omega),
   fun v => m_sI (n := 1420) (by decide +kernel) (by omega) I J 11 v (by omega),
   m_aI (n := 1420) (by decide +kernel) (by omega) I J 12 (by omega),
   fun v => m_sI (n := 1420) (by decide +kernel) (by omega) I J 12 v (by omega),
   m_aI (n := 1420) (by decide +kernel) (by omega) I J 92 (by omega),
   fun v => m_sI (n := 1420) (by decide +kernel) (by omega) I J 92 v (by omega),
   m_aI (n := 1420) (by decide +kernel) (by omega) I J 105 (by omega),
   fun v => m_sI (n := 1420) (by decide +kernel) (by omega) I J 105 v (by omega),
   m_aI (n := 1420) (by decide +kernel) (by omega) I J 106 (by omega),
   fun v => m_sI (n := 1420) (by decide +kernel) (by omega) I J 106 v (by omega),
   m_aI (n := 1420) (by decide +kernel) (by omega) I J 107 (by omega),
   fun v => m_sI (n := 1420) (by decide +kernel) (by omega) I J 107 v (by omega),
   m_aI (n := 1420) (by decide +kernel) (by omega) I J 108 (by omega),
   fun v => m_sI (n := 1420) (by decide +kernel) (by omega) I J 108 v (by omega),
   m_aI (n := 1420) (by decide +kernel) (by omega) I J 519 (by omega),
   fun v => m_sI (n := 1420) (by decide +kernel) (by omega) I J 519 v (by omega),
   m_aI (by decide +kernel) (by omega) I J,
   m_sI (by decide +kernel) (by omega) I J,
   m_aI (by decide +kernel) (by omega) I J,
   m_sI (by decide +kernel) (by omega) I J,
   m_aI (n := 6) (by decide +kernel) (by omega) I J 0 (by omega),
   fun v => m_sI (n := 6) (by decide +kernel) (by omega) I J 0 v (by omega),
   m_aI (n := 6) (by decide +kernel) (by omega) I J 1 (by omega),
   fun v => m_sI (n := 6) (by decide +kernel) (by omega) I J 1 v (by omega),
   m_aI (n := 6) (by decide +kernel) (by omega) I J 2 (by omega),
   fun v => m_sI (n := 6) (by decide +kernel) (by omega) I J 2 v (by omega),
   m_aI (n := 6) (by decide +kernel) (by omega) I J 3 (by omega),
   fun v => m_sI (n := 6) (by decide +kernel) (by omega) I J 3 v (by omega),
   m_aI (n := 6) (by decide +kernel) (by omega) I J 4 (by omega),
   fun v => m_sI (n := 6) (by decide +kernel) (by omega) I J 4 v (by omega),
   m_aI (n := 6) (by decide +kernel) (by omega) I J 5 (by omega),
   fun v => m_sI (n := 6) (by decide +kernel) (by omega) I J 5 v (by omega),
   m_aI (by decide +kernel) (by omega) I J,
   m_sI (by decide +kernel) (by omega) I J,
   m_aI (by decide +kernel) (by omega) I J,
   m_sI (by decide +kernel) (by omega) I J,
   m_aI (by decide +kernel) (by omega) I J,
   m_sI (by decide +kernel) (by omega) I J,
   m_aI (n := 41) (by decide +kernel) (by omega) I J 38 (by omega),
   fun v => m_sI (n := 41) (by decide +kernel) (by omega) I J 38 v (by omega),
   m_aI (n := 41) (by decide +kernel) (by omega) I J 39 (by omega),
   fun v => m_sI (n := 41) (by decide +kernel) (by omega) I J 39 v (by omega),
   m_aI (n := 41) (by decide +kernel) (by omega) I J 40 (by omega),
   fun v => m_sI (n := 41) (by decide +kernel) (by omega) I J 40 v (by omega),
   m_aI (by decide +kernel) (by omega) I J,
   m_sI (by decide +kernel) (by omega) I J,
   m_aI (by decide +kernel) (by omega) I J,
   m_sI (by decide +kernel) (by omega) I J,
   m_aI (by decide +kernel) (by omega) I J,
   m_sI (by decide +kernel) (by omega) I J,
   m_aI (by decide +kernel) (by omega) I J,
   m_sI (by decide +kernel) (by omega) I J,
   m_aI (by decide +kernel) (by omega) I J,
   m_sI (by decide +kernel) (by omega) I J,
   m_aI (by decide +kernel) (by omega) I J,
   m_sI (by decide +kernel) (by omega) I J,
   m_aI (by decide +kernel) (by omega) I J,
   m_sI (by decide +kernel) (by omega) I J,
   m_aJ (by decide +kernel) (by omega) I J,
   m_sJ (by decide +kernel) (by omega) I J,
   m_aI (by decide +kernel) (by omega) I J,
   m_sI (by decide +kernel) (by omega) I J,
   m_aI (by decide +kernel) (by omega) I J,
   m_sI (by decide +kernel) (by omega) I J,
   m_aJ (by decide +kernel) (by omega) I J,
   m_sJ (by decide +kernel) (by omega) I J⟩
/-! ===== coasts ===== -/
def coastL : List Nat := [10, 21, 25, 37, 41, 45, 49, 53, 57, 61, 65, 69, 73, 77, 99, 110, 128, 132, 136, 140, 144, 148, 152, 156, 160]
theorem coast_sh : ∀ k ∈ coastL, (SH[k]?).map Prod.fst = some 0 ∧ (k, 0, k + 1) ∈ PPl ∧ (k, 1, k + 2) ∈ PPl ∧ (k, 2, k + 3) ∈ PPl ∧ SH[k + 1]? = some (20, 25) ∧ SH[k + 2]? = some (20, 6) ∧ SH[k + 3]? = some (20, 6) := by decide +kernel
/-- a coast wherever it lies -/
theorem OK_ {P : Nat → Nat → Option Nat} (hP : GP P) {k : Nat} (hk : k ∈ coastL) (I : Nat → Nat → Int32) (J : Nat → Nat → Int64) :
    (∀ f, xgI (mm P I J) k 0 f = some (I k f)) ∧ (∀ f v, xpI (mm P I J) k 0 f v = some (mm P (xu I k f v) J)) ∧ xck (mm P I J) k 0 = some () ∧
    xgP (mm P I J) k 0 0 = some (k + 1) ∧ xgP (mm P I J) k 0 1 = some (k + 2) ∧ xgP (mm P I J) k 0 2 = some (k + 3) ∧
    (∀ j, j < 25 → xaI (mm P I J) 20 (k + 1) (nI j) = some (I (k + 1) j)) ∧ (∀ j v, j < 25 → xsI (mm P I J) (k + 1) (nI j) v = some (mm P (xu I (k + 1) j v) J)) ∧
    (∀ j, j < 6 → xaI (mm P I J) 20 (k + 2) (nI j) = some (I (k + 2) j)) ∧ (∀ j v, j < 6 → xsI (mm P I J) (k + 2) (nI j) v = some (mm P (xu I (k + 2) j v) J)) ∧
    (∀ j, j < 6 → xaI (mm P I J) 20 (k + 3) (nI j) = some (I (k + 3) j)) ∧ (∀ j v, j < 6 → xsI (mm P I J) (k + 3) (nI j) v = some (mm P (xu I (k + 3) j v) J)) := by
  obtain ⟨h0, h1, h2, h3, h4, h5, h6⟩ := coast_sh k hk
  exact ⟨m_gI h0 I J, m_pI h0 I J, m_ck h0 I J, m_gP hP h0 h1 I J, m_gP hP h0 h2 I J, m_gP hP h0 h3 I J, m_aI h4 (by omega) I J, m_sI h4 (by omega) I J, m_aI h5 (by omega) I J, m_sI h5 (by omega) I J, m_aI h6 (by omega) I J, m_sI h6 (by omega) I J⟩
/-! ===== copies ===== -/
theorem m_cp {P : Nat → Nat → Option Nat} {a b la lb : Nat} (ha : SH[a]? = some (20, la)) (hb : SH[b]? = some (20, lb)) (I : Nat → Nat → Int32) (J : Nat → Nat → Int64) {n : Nat} (h1 : n ≤ la) (h2 : n ≤ lb) (hn : n < 2 ^ 31) : xcp (mm P I J) a 0 b 0 (nI n) = some (mm P (xur I b (fun i => if i < n then I a i else I b i)) J) := by
  unfold xcp xln
  rw [show (mm P I J).1 = SH from rfl, ha, hb]
  dsimp only
  rw [if_pos rfl, if_pos rfl]
  simp only [Option.bind_some]
  have z : (0 : Int32).toNatClampNeg = 0 := by decide
  rw [z, nI_clamp hn, if_pos ⟨⟨by decide, by decide, nI_pos' hn⟩, by omega, by omega⟩]
  have e : va_cpy ((mm P I J).2.1 a) ((mm P I J).2.1 b) 0 0 n = fun i => if i < n then I a i else I b i := by
    funext i
    unfold va_cpy
    simp [mm]
  rw [e]
  rfl

