-- ===== the reference's pad =====
def PadM (A I : Nat → Nat → Int32) (pn : Nat) (ps : Nat → Nat) : Prop := I 64 5 = nI pn ∧ pn ≤ 60 ∧ ∀ i, i < pn → A 68 i = nI (ps i)
/-- only the numbers that a reading leaves were changed -/
def SF (I I' : Nat → Nat → Int32) : Prop := (∀ a, a ≠ 64 → I' a = I a) ∧ ∀ b, (b < 6 ∨ 10 < b) → I' 64 b = I 64 b
theorem SF.rf {I : Nat → Nat → Int32} : SF I I := ⟨fun _ _ => rfl, fun _ _ => rfl⟩
theorem SF.up {I I' : Nat → Nat → Int32} {k : Nat} {x : Int32} (h : SF I I') (h1 : 6 ≤ k) (h2 : k ≤ 10) : SF I (up2 I' 64 k x) := ⟨fun a ha => (up2_fn ha).trans (h.1 a ha), fun b hb => (up2_m (by omega)).trans (h.2 b hb)⟩
theorem SF.tr {I I1 I2 : Nat → Nat → Int32} (h : SF I I1) (g : SF I1 I2) : SF I I2 := ⟨fun a ha => (g.1 a ha).trans (h.1 a ha), fun b hb => (g.2 b hb).trans (h.2 b hb)⟩
theorem PadM.sf {A I I' : Nat → Nat → Int32} {pn : Nat} {ps : Nat → Nat} (h : PadM A I pn ps) (g : SF I I') : PadM A I' pn ps := ⟨(g.2 5 (by omega)).trans h.1, h.2⟩
section MF1
variable {A I : Nat → Nat → Int32} {sw : Bool} {pn : Nat} {ps : Nat → Nat}
theorem in_let {c : Nat} (h : c ≤ 126) : f_Mo_in (nI c).toInt64 (65 : Int64) (68 : Int64) = some (if 65 ≤ c ∧ c ≤ 68 then 1 else 0) := inN (lo := 65) (hi := 68) rfl rfl (by omega) (by decide) (by decide)
theorem in_nam {c : Nat} (h : c ≤ 126) : f_Mo_in (nI c).toInt64 (97 : Int64) (104 : Int64) = some (if 97 ≤ c ∧ c ≤ 104 then 1 else 0) := inN (lo := 97) (hi := 104) rfl rfl (by omega) (by decide) (by decide)
theorem in_fig {c : Nat} (h : c ≤ 126) : f_Mo_in (nI c).toInt64 (48 : Int64) (57 : Int64) = some (if 48 ≤ c ∧ c ≤ 57 then 1 else 0) := inN (lo := 48) (hi := 57) rfl rfl (by omega) (by decide) (by decide)
/-- a piece more, or the end -/
theorem goOn2_in {c t w : Nat} (hc : 48 ≤ c ∧ c ≤ 57) (ht : t < 6) (h10 : I 64 10 = nI t) (h9 : I 64 9 = nI w) (hw : w < 2000000) : f_Mo_goOn (Wd A I sw) 64 (2 : Int32) (nI c) = some ((2 : Int32), Wd A (up2 (up2 I 64 9 (nI (10 * w + (c - 48)))) 64 10 (nI (t + 1))) sw) := by
  have e1 : (10 : Int32) * nI w = nI (10 * w) := pk_mul 10 _
  have e2 : nI (10 * w + c) - (48 : Int32) = nI (10 * w + c - 48) := pk_sub (b := 48) (by omega)
  have e3 : 10 * w + c - 48 = 10 * w + (c - 48) := by omega
  unfold f_Mo_goOn f_Mo_goOn_61 f_Mo_goOn_89 f_Mo_goOn_102
  rw [kk_64, if_neg (by decide), if_neg (by decide), if_neg (by decide), if_pos rfl, in_fig (by omega), if_pos hc, sb, if_neg (by decide), gg_64_10, sb, h10, ifc (ge6 (by omega)), if_neg (by omega), gg_64_9, sb, h9, e1, nI_add, e2, ss_64_9, sb, gg_64_10, sb, up2_m (by omega), h10, add1, ss_64_10, sb, e3]
theorem goOn2_out {c t : Nat} (hc' : c ≤ 126) (ht : t ≤ 6) (h10 : I 64 10 = nI t) (hc : ¬ ((48 ≤ c ∧ c ≤ 57) ∧ t < 6)) : f_Mo_goOn (Wd A I sw) 64 (2 : Int32) (nI c) = some ((-6 : Int32), Wd A I sw) := by
  unfold f_Mo_goOn f_Mo_goOn_61 f_Mo_goOn_89 f_Mo_goOn_102
  rw [kk_64, if_neg (by decide), if_neg (by decide), if_neg (by decide), if_pos rfl, in_fig (by omega), sb]
  by_cases c1 : 48 ≤ c ∧ c ≤ 57
  · rw [if_pos c1, if_neg (by decide), gg_64_10, sb, h10, ifc (ge6 (by omega)), if_pos (by omega)]
  · rw [if_neg c1, if_pos rfl]
theorem goOn1 {c : Nat} (hc' : c ≤ 126) : f_Mo_goOn (Wd A I sw) 64 (1 : Int32) (nI c) = some (if c = 61 then (2 : Int32) else (-6 : Int32), Wd A I sw) := by
  unfold f_Mo_goOn f_Mo_goOn_61 f_Mo_goOn_89 f_Mo_goOn_102
  rw [kk_64, if_neg (by decide), if_neg (by decide), if_pos rfl, ifc (eq61 (by omega))]
  by_cases c1 : c = 61
  · rw [if_pos c1, if_pos c1]
  · rw [if_neg c1, if_neg c1, if_neg (by decide)]
theorem goOn0_let {c t w : Nat} (hc : 65 ≤ c ∧ c ≤ 68) (ht : t < 3) (h7 : I 64 7 = nI t) (h6 : I 64 6 = nI w) : f_Mo_goOn (Wd A I sw) 64 (0 : Int32) (nI c) = some ((0 : Int32), Wd A (up2 (up2 I 64 6 (nI (w + (c - 64) * (if t = 0 then 100 else if t = 1 then 10 else 1)))) 64 7 (nI (t + 1))) sw) := by
  have e1 : nI c - (65 : Int32) = nI (c - 65) := pk_sub (b := 65) (by omega)
  have e2 : f_Mo_worth (nI t) = some (nI (if t = 0 then 100 else if t = 1 then 10 else 1)) := by
    unfold f_Mo_worth
    rcases (show t = 0 ∨ t = 1 ∨ t = 2 by omega) with rfl | rfl | rfl <;> rfl
  have e3 : w + (if t = 0 then 100 else if t = 1 then 10 else 1) * (c - 65 + 1) = w + (c - 64) * (if t = 0 then 100 else if t = 1 then 10 else 1) := by
    rw [Nat.mul_comm]
    congr 2
    omega
  unfold f_Mo_goOn
  rw [kk_64, if_pos rfl, in_let (by omega), if_pos hc, sb, if_neg (by decide), gg_64_7, sb, h7, ifc (ge3 (by omega)), if_neg (by omega), gg_64_6, sb, h6, sb, e2, sb, e1, add1, pk_mul, nI_add, ss_64_6, sb, gg_64_7, sb, up2_m (by omega), h7, add1, ss_64_7, sb, e3]
theorem goOn0_nam {c t : Nat} (ht : t ≤ 3) (h7 : I 64 7 = nI t) (hc' : c ≤ 126) (hc : ¬ ((65 ≤ c ∧ c ≤ 68) ∧ t < 3)) : f_Mo_goOn (Wd A I sw) 64 (0 : Int32) (nI c) = some (if 97 ≤ c ∧ c ≤ 104 then ((1 : Int32), Wd A (up2 I 64 8 (nI (c - 97))) sw) else ((-6 : Int32), Wd A I sw)) := by
  have h61 : f_Mo_goOn_61 (Wd A I sw) 64 (0 : Int32) (nI c) = some (if 97 ≤ c ∧ c ≤ 104 then ((1 : Int32), Wd A (up2 I 64 8 (nI (c - 97))) sw) else ((-6 : Int32), Wd A I sw)) := by
    unfold f_Mo_goOn_61 f_Mo_goOn_89 f_Mo_goOn_102
    rw [if_pos rfl, in_nam hc', sb]
    by_cases c1 : 97 ≤ c ∧ c ≤ 104
    · have e1 : nI c - (97 : Int32) = nI (c - 97) := pk_sub (b := 97) (by omega)
      rw [if_pos c1, if_neg (by decide), e1, ss_64_8, sb, if_pos c1]
    · rw [if_neg c1, if_pos rfl, if_neg (by decide), if_neg (by decide), if_neg c1]
  unfold f_Mo_goOn
  rw [kk_64, if_pos rfl, in_let hc', sb]
  by_cases c1 : 65 ≤ c ∧ c ≤ 68
  · rw [if_pos c1, if_neg (by decide), gg_64_7, sb, h7, ifc (ge3 (by omega)), if_pos (by omega), h61]
  · rw [if_neg c1, if_pos rfl, h61]
theorem sg_lt {k : Nat} (h : k < pn) : sg ps pn k = ps k := by unfold sg; rw [if_pos h]
theorem sg_ge {k : Nat} (h : pn ≤ k) : sg ps pn k = 0 := by unfold sg; rw [if_neg (by omega)]
/-- the pieces -/
theorem fault_D (hv : VPd pn ps) (s G : Nat) (hs : s ≤ 100) (hG : G = rn (sg ps pn) 48 57 s 6) : ∀ (k t f : Nat) (I : Nat → Nat → Int32), t + k = G → s + t ≤ pn → k < f → PadM A I pn ps → I 64 9 = nI (conN (sg ps pn) s t) → I 64 10 = nI t → ∃ I', f_Mo_fault_29 64 f (2 : Int32) (nI (s + t)) (Wd A I sw) = some (o2i (if s + G < pn then some (s + G) else none), Wd A I' sw) ∧ SF I I' ∧ I' 64 9 = nI (conN (sg ps pn) s G) ∧ I' 64 6 = I 64 6 ∧ I' 64 8 = I 64 8 := by
  obtain ⟨g1, g2, g3⟩ := rn_spec (sg ps pn) 48 57 6 s
  rw [← hG] at g1 g2 g3
  intro k
  induction k with
  | zero =>
    intro t f I h1 h2 h3 hp h9 h10
    obtain ⟨g, rfl⟩ : ∃ g, f = g + 1 := ⟨f - 1, by omega⟩
    have ht : t = G := by omega
    subst ht
    have hb := hp.2.1
    refine ⟨I, ?_, SF.rf, h9, rfl, rfl⟩
    rw [f_Mo_fault_29, gg_64_5, sb, hp.1, ifc (nI_leI (by omega) (by omega))]
    by_cases c1 : pn ≤ s + t
    · rw [if_pos c1, if_pos rfl, sb, if_neg (by omega)]
      simp only [o2i]
    · have hq := hv.2 (s + t) (by omega)
      rw [if_neg c1, rr_64_4, sb, ga_68 (by omega), sb, hp.2.2 (s + t) (by omega), goOn2_out hq.2 g1 h10 (fun q => by
        have := g3 q.2
        rw [sg_lt (by omega)] at this
        exact this q.1), sb, if_neg (by show ¬ (0 : Int32) ≤ -6; decide), if_pos (by omega)]
      simp only [o2i]
  | succ k ih =>
    intro t f I h1 h2 h3 hp h9 h10
    obtain ⟨g, rfl⟩ : ∃ g, f = g + 1 := ⟨f - 1, by omega⟩
    have hb := hp.2.1
    have hd := g2 t (by omega)
    have hlt : s + t < pn := by
      rcases Nat.lt_or_ge (s + t) pn with q | q
      · exact q
      · rw [sg_ge q] at hd; omega
    have hc := conN_in (g := sg ps pn) (s := s) t (fun u hu => g2 u (by omega))
    have hpw : 10 ^ t ≤ 10 ^ 5 := Nat.pow_le_pow_right (by omega) (by omega)
    have hd2 := hd
    rw [sg_lt hlt] at hd2
    rw [f_Mo_fault_29, gg_64_5, sb, hp.1, ifc (nI_leI (by omega) (by omega)), if_neg (by omega), rr_64_4, sb, ga_68 (by omega), sb, hp.2.2 (s + t) hlt, goOn2_in hd2 (by omega) h10 h9 (by omega), sb, if_pos (by show (0 : Int32) ≤ 2; decide), add1]
    have e : 10 * conN (sg ps pn) s t + (ps (s + t) - 48) = conN (sg ps pn) s (t + 1) := by rw [conN, sg_lt hlt]
    rw [e]
    dsimp only
    obtain ⟨I1, e1, e2, e3, e4, e5⟩ := ih (t + 1) g _ (by omega) (by omega) (by omega) (hp.sf ((SF.rf.up (k := 9) (by omega) (by omega)).up (k := 10) (by omega) (by omega))) (by rw [up2_m (by omega), up2_s]) (up2_s _ _ _ _)
    refine ⟨I1, e1, SF.tr ((SF.rf.up (k := 9) (by omega) (by omega)).up (k := 10) (by omega) (by omega)) e2, e3, ?_, ?_⟩
    · rw [e4, up2_m (by omega), up2_m (by omega)]
    · rw [e5, up2_m (by omega), up2_m (by omega)]
/-- the letters, the name, the sign = -/
theorem fault_A (hv : VPd pn ps) : ∀ (k t f : Nat) (I : Nat → Nat → Int32), t + k = lets (sg ps pn) → t ≤ pn → k + 20 < f → PadM A I pn ps → I 64 6 = nI (fldN (sg ps pn) t) → I 64 7 = nI t → I 64 9 = nI 1 → I 64 10 = nI 0 → ∃ I', f_Mo_fault_29 64 f (0 : Int32) (nI t) (Wd A I sw) = some (o2i (flt ps pn), Wd A I' sw) ∧ SF I I' ∧ (flt ps pn = none → I' 64 6 = nI (fldN (sg ps pn) (lets (sg ps pn))) ∧ I' 64 8 = nI (sg ps pn (lets (sg ps pn)) - 97) ∧ I' 64 9 = nI (contN (sg ps pn))) := by
  obtain ⟨g1, g2, g3⟩ := rn_spec (sg ps pn) 65 68 3 0
  have hin := lets_in (sg ps pn)
  have hL := lets_le (sg ps pn)
  intro k
  induction k with
  | zero =>
    intro t f I h1 h2 h3 hp h6 h7 h9 h10
    obtain ⟨g, rfl⟩ : ∃ g, f = g + 1 := ⟨f - 1, by omega⟩
    have ht : t = lets (sg ps pn) := by omega
    have hb := hp.2.1
    rw [f_Mo_fault_29, gg_64_5, sb, hp.1, ifc (nI_leI (by omega) (by omega))]
    by_cases c1 : pn ≤ t
    · have e : flt ps pn = some pn := by
        unfold flt
        rw [sg_ge (k := lets (sg ps pn)) (by omega), if_neg (by omega)]
        congr 1
        omega
      rw [if_pos c1, if_neg (by decide), sb, sb, e]
      simp only [o2i]
      exact ⟨I, rfl, SF.rf, fun q => by cases q⟩
    · have hlt : t < pn := by omega
      have hq := hv.2 t hlt
      have hsg : sg ps pn (lets (sg ps pn)) = ps t := by rw [← ht]; exact sg_lt hlt
      rw [if_neg c1, rr_64_4, sb, ga_68 (by omega), sb, hp.2.2 t hlt, goOn0_nam (t := t) (by omega) h7 hq.2 (fun q => by
        have := g3 (by have : lets (sg ps pn) < 3 := by omega
                       exact this)
        rw [Nat.zero_add, show rn (sg ps pn) 65 68 0 3 = lets (sg ps pn) from rfl, hsg] at this
        exact this q.1), sb]
      by_cases c2 : 97 ≤ ps t ∧ ps t ≤ 104
      · rw [if_pos c2, if_pos (by show (0 : Int32) ≤ 1; decide), add1]
        dsimp only
        obtain ⟨g, rfl⟩ : ∃ g2, g = g2 + 1 := ⟨g - 1, by omega⟩
        have hp2 : PadM A (up2 I 64 8 (nI (ps t - 97))) pn ps := hp.sf (SF.rf.up (k := 8) (by omega) (by omega))
        rw [f_Mo_fault_29, gg_64_5, sb, hp2.1, ifc (nI_leI (by omega) (by omega))]
        by_cases c3 : pn ≤ t + 1
        · have e : flt ps pn = some pn := by
            unfold flt
            rw [hsg, if_pos c2, sg_ge (k := lets (sg ps pn) + 1) (by omega), if_neg (by omega)]
            congr 1
            omega
          rw [if_pos c3, if_neg (by decide), sb, sb, e]
          simp only [o2i]
          exact ⟨_, rfl, SF.rf.up (k := 8) (by omega) (by omega), fun q => by cases q⟩
        · have hlt1 : t + 1 < pn := by omega
          have hq1 := hv.2 (t + 1) hlt1
          have hsg1 : sg ps pn (lets (sg ps pn) + 1) = ps (t + 1) := by rw [← ht]; exact sg_lt hlt1
          rw [if_neg c3, rr_64_4, sb, ga_68 (by omega), sb, hp2.2.2 (t + 1) hlt1, goOn1 hq1.2, sb]
          by_cases c4 : ps (t + 1) = 61
          · rw [if_pos c4, if_pos (by show (0 : Int32) ≤ 2; decide), add1]
            dsimp only
            obtain ⟨I1, e1, e2, e3, e4, e5⟩ := fault_D (A := A) (sw := sw) hv (lets (sg ps pn) + 2) (figs (sg ps pn)) (by omega) rfl (figs (sg ps pn)) 0 g (up2 I 64 8 (nI (ps t - 97))) (by omega) (by omega) (by have := figs_le (sg ps pn); omega) hp2 (by rw [up2_m (by omega), h9]; rfl) (by rw [up2_m (by omega), h10])
            have et : t + 1 + 1 = lets (sg ps pn) + 2 + 0 := by omega
            rw [et]
            have ef : flt ps pn = (if lets (sg ps pn) + 2 + figs (sg ps pn) < pn then some (lets (sg ps pn) + 2 + figs (sg ps pn)) else none) := by
              unfold flt
              rw [hsg, if_pos c2, hsg1, if_pos c4]
            rw [ef]
            refine ⟨I1, e1, SF.tr (SF.rf.up (k := 8) (by omega) (by omega)) e2, fun _ => ⟨?_, ?_, e3⟩⟩
            · rw [e4, up2_m (by omega), h6, ht]
            · rw [e5, up2_s, hsg]
          · have e : flt ps pn = some (t + 1) := by
              unfold flt
              rw [hsg, if_pos c2, hsg1, if_neg c4]
              congr 1
              omega
            rw [if_neg c4, if_neg (by show ¬ (0 : Int32) ≤ -6; decide), e]
            simp only [o2i]
            exact ⟨_, rfl, SF.rf.up (k := 8) (by omega) (by omega), fun q => by cases q⟩
      · have e : flt ps pn = some t := by
          unfold flt
          rw [hsg, if_neg c2]
          congr 1
          omega
        rw [if_neg c2, if_neg (by show ¬ (0 : Int32) ≤ -6; decide), e]
        simp only [o2i]
        exact ⟨I, rfl, SF.rf, fun q => by cases q⟩
  | succ k ih =>
    intro t f I h1 h2 h3 hp h6 h7 h9 h10
    obtain ⟨g, rfl⟩ : ∃ g, f = g + 1 := ⟨f - 1, by omega⟩
    have hb := hp.2.1
    have hd := hin t (by omega)
    have hlt : t < pn := by
      rcases Nat.lt_or_ge t pn with q | q
      · exact q
      · rw [sg_ge q] at hd; omega
    have hd2 := hd
    rw [sg_lt hlt] at hd2
    rw [f_Mo_fault_29, gg_64_5, sb, hp.1, ifc (nI_leI (by omega) (by omega)), if_neg (by omega), rr_64_4, sb, ga_68 (by omega), sb, hp.2.2 t hlt, goOn0_let hd2 (t := t) (by omega) h7 h6, sb, if_pos (by show (0 : Int32) ≤ 0; decide), add1]
    have e : fldN (sg ps pn) t + (ps t - 64) * (if t = 0 then 100 else if t = 1 then 10 else 1) = fldN (sg ps pn) (t + 1) := by rw [fldN, sg_lt hlt]
    rw [e]
    dsimp only
    have hsf : SF I (up2 (up2 I 64 6 (nI (fldN (sg ps pn) (t + 1)))) 64 7 (nI (t + 1))) := (SF.rf.up (k := 6) (by omega) (by omega)).up (k := 7) (by omega) (by omega)
    obtain ⟨I1, e1, e2, e3⟩ := ih (t + 1) g _ (by omega) (by omega) (by omega) (hp.sf hsf) (by rw [up2_m (by omega), up2_s]) (up2_s _ _ _ _) (by rw [up2_m (by omega), up2_m (by omega), h9]) (by rw [up2_m (by omega), up2_m (by omega), h10])
    exact ⟨I1, e1, SF.tr hsf e2, e3⟩
theorem Mo_fault (hp : PadM A I pn ps) (hv : VPd pn ps) : ∃ I', f_Mo_fault (Wd A I sw) 64 = some (o2i (flt ps pn), Wd A I' sw) ∧ SF I I' ∧ (flt ps pn = none → I' 64 6 = nI (fldN (sg ps pn) (lets (sg ps pn))) ∧ I' 64 8 = nI (sg ps pn (lets (sg ps pn)) - 97) ∧ I' 64 9 = nI (contN (sg ps pn))) := by
  have hL := lets_le (sg ps pn)
  unfold f_Mo_fault
  rw [kk_64, ss_64_6, sb, ss_64_7, sb, ss_64_8, sb, ss_64_9, sb, ss_64_10, sb]
  have hsf : SF I (up2 (up2 (up2 (up2 (up2 I 64 6 0) 64 7 0) 64 8 0) 64 9 1) 64 10 0) := ((((SF.rf.up (k := 6) (by omega) (by omega)).up (k := 7) (by omega) (by omega)).up (k := 8) (by omega) (by omega)).up (k := 9) (by omega) (by omega)).up (k := 10) (by omega) (by omega)
  obtain ⟨I1, e1, e2, e3⟩ := fault_A (A := A) (sw := sw) hv (lets (sg ps pn)) 0 FU (up2 (up2 (up2 (up2 (up2 I 64 6 0) 64 7 0) 64 8 0) 64 9 1) 64 10 0) (by omega) (by omega) (by rw [FU_eq]; omega) (hp.sf hsf) (by simp [up2]; rfl) (by simp [up2]; rfl) (by simp [up2]; rfl) (by simp [up2]; rfl)
  exact ⟨I1, e1, SF.tr hsf e2, e3⟩
end MF1
