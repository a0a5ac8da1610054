/-! quiet sets, parities, best solutions -/
def gC (E S : Nat → Int32) (n c fr : Nat) (k : Nat) (s : Nat × (Nat → Int32)) : Nat × (Nat → Int32) := if fr.testBit k = true then (s.1 + 1, upd s.2 s.1 (1 <<< (Int32.ofNat (nn c k) &&& 31) ||| swI E S n (1 <<< (Int32.ofNat (nn c k) &&& 31)))) else s
theorem cq_IT {C G : HP} {b r c : Nat} (h : SV C G b r c) : cqA (elS C b).2.2 (elS C b).2.1 (elS C b).1 = itr (gC ((elS C b).2.2 118) ((elS C b).2.2 119) (elS C b).2.1 c (endM (G 125 2) r c).2.2) (r * c) 0 (0, (elS C b).2.2 120) := by
  have hg := h.1
  have hp := h.2.1
  have hr := hg.2.2.2.1
  have hc := hg.2.2.2.2.2
  obtain ⟨f1, f2, f3, f4, f5, f6, f7, f8, f9, f10⟩ := ck_f (ck_all hp hr hc)
  obtain ⟨s1, s2, s3, s4, s5, s6⟩ := elS_sK h
  unfold cqA
  rw [← IT hr hc]
  apply itr_cg
  intro j s _ hj
  unfold cqF gC
  rw [ct_gb (by omega), s6 j (by omega), f2]
  by_cases cl : isCl r c j = true
  · rw [if_pos cl, cl, Bool.true_and, (nn_kk hr hc cl).2]
  · rw [if_neg cl, Bool.eq_false_iff.mpr cl, Bool.false_and, if_neg (by simp)]
/-- the quiet sets agree -/
theorem qu_rel {C G : HP} {b r c : Nat} (h : SV C G b r c) : qN C b = (quT G r c).1 ∧ ∀ i, i < (quT G r c).1 → SR r c (elC C b 120 i) ((quT G r c).2 i) := by
  have hg := h.1
  have hp := h.2.1
  have hr := hg.2.2.2.1
  have hc := hg.2.2.2.2.2
  have h25 := gS_n hg
  obtain ⟨f1, f2, f3, f4, f5, f6, f7, f8, f9, f10⟩ := ck_f (ck_all hp hr hc)
  obtain ⟨s1, s2, s3, s4, s5, s6⟩ := elS_sK h
  obtain ⟨m1, m2, m3, m4, m5, m6⟩ := emT_sM h
  have kk1 : (elS C b).2.1 = (emT G r c).2.1 := by rw [s1, m1, f1]
  have key := itr_rel (f := gC ((elS C b).2.2 118) ((elS C b).2.2 119) (elS C b).2.1 c (endM (G 125 2) r c).2.2) (g := qlF (emT G r c).2.2.1 (emT G r c).2.2.2 (emT G r c).2.1 (emT G r c).1) (fun _ s t => s.1 = t.1 ∧ ∀ i, i < s.1 → SR r c (s.2 i) (t.2 i)) (r * c) 0 (0, (elS C b).2.2 120) (0, G 133) ⟨rfl, fun i hi => absurd hi (Nat.not_lt_zero i)⟩ (fun k s t _ hk hst => by
    have hk : k < r * c := by omega
    obtain ⟨n1, n2, n3, n4, n5, n6⟩ := nn_1 hr hc hk
    unfold gC qlF
    rw [hs_gb (by omega), m6 k (by omega)]
    by_cases fk : (endM (G 125 2) r c).2.2.testBit k = true
    · rw [if_pos fk, if_pos fk]
      refine ⟨by show s.1 + 1 = t.1 + 1; rw [hst.1], fun i hi => ?_⟩
      have hi : i < s.1 + 1 := hi
      show SR r c (upd s.2 s.1 _ i) (upd t.2 t.1 _ i)
      unfold upd
      rw [← hst.1]
      by_cases e : i = s.1
      · rw [if_pos e, if_pos e, kk1]
        have kv := itr_rel (f := fun j s => if (elS C b).2.2 118 j &&& 1 <<< (Int32.ofNat (nn c k) &&& 31) = 0 then s else s ||| (elS C b).2.2 119 j) (g := fun i s => if hs ((emT G r c).2.2.1 i) (Int32.ofNat k) = true then s ||| 1 <<< ((emT G r c).2.2.2 i &&& 31) else s) (fun _ s t => SR r c (1 <<< (Int32.ofNat (nn c k) &&& 31) ||| s) t) (emT G r c).2.1 0 0 (1 <<< (Int32.ofNat k &&& 31)) (by rw [Int32.or_zero]; exact SR_1 hr hc hk) (fun i x y _ hi hxy => by
          have hi : i < (emT G r c).2.1 := by omega
          have e1 : hs ((emT G r c).2.2.1 i) (Int32.ofNat k) = (gR (endM (G 125 2) r c).1 i).1.testBit k := by
            rw [hs_gb (by omega), m4 i (by omega) k (by omega), if_pos (by omega)]
          have e2 : (((elS C b).2.2 118 i) &&& 1 <<< (Int32.ofNat (nn c k) &&& 31) = 0) = ((gR (endM (G 125 2) r c).1 i).1.testBit k = false) := by
            have q : ct ((elS C b).2.2 118 i) (Int32.ofNat (nn c k)) = (gR (endM (G 125 2) r c).1 i).1.testBit k := by
              rw [ct_gb (by omega), s4 i (by omega) (nn c k) (by omega), if_pos n6, (kk_nn hr hc hk).1, (kk_nn hr hc hk).2, Bool.true_and, f3 i (by omega)]
            rw [← q]
            unfold ct
            by_cases w : (elS C b).2.2 118 i &&& 1 <<< (Int32.ofNat (nn c k) &&& 31) = 0 <;> simp [w]
          rw [e1]
          cases tb : (gR (endM (G 125 2) r c).1 i).1.testBit k
          · rw [if_pos (e2.mpr tb), if_neg (by simp)]; exact hxy
          · rw [if_neg (fun q => by rw [e2, tb] at q; exact Bool.noConfusion q), if_pos rfl, ← Int32.or_assoc, s5 i (by omega), m5 i hi, f1]
            exact SR_or hxy (SR_1 hr hc (piv_i (by omega))))
        exact kv
      · rw [if_neg e, if_neg e]
        exact hst.2 i (by omega)
    · rw [if_neg fk, if_neg fk]
      exact hst)
  have e := cq_IT h
  refine ⟨?_, ?_⟩
  · unfold qN
    rw [e]; exact key.1
  · intro i hi
    show SR r c ((cqA (elS C b).2.2 (elS C b).2.1 (elS C b).1).2 i) _
    rw [e]
    exact key.2 i (by rw [key.1]; exact hi)
/-- the turns of the two walks agree -/
theorem tn_ck : ((List.range 1024).all fun k => (List.range 11).all fun q => decide (k = 0 ∨ 2 ^ q ≤ k) || decide (bc32 ((Int32.ofNat k &&& -(Int32.ofNat k)) - 1) = Int32.ofNat (tnM q k) ∧ tnM q k < q)) = true := by decide +kernel
theorem q_ck : ((List.range 6).all fun r => (List.range 6).all fun c => [(43 : Int32), 120, 111, 115].all fun p => decide (((List.range (r * c)).filter fun k => (endM p r c).2.2.testBit k).length ≤ 10)) = true := by decide +kernel
