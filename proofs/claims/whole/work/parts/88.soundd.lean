/-! Enum.ordinal: the tables don't say that java/lang/Enum is initialised, which the kit's call rows ask; a call of an instance method doesn't need it: the callee is walked in its own frame. The tail follows vx_back. -/
abbrev yOrd : MethodName := ⟨"java/lang/Enum", "ordinal", "()I"⟩
abbrev cOrd : ByteArray := prog_15_method_2_code
section Ord
variable {l : Launch} {R : Room} {p : Program} {e : Env} {below : List Frame} {s : State} {sargs : Array Value}
set_option maxHeartbeats 1000000 in
theorem ord_back (hexec : p.tables.exec = Jvm.exec) (hframes : 1 ≤ R.frames) (hlocals : 20 ≤ R.locals)
    (hcode : ∀ a' U, s.WarmedH U.vm → (Cond.code yOrd cOrd 1 (some .int)).before a' U = true) (hlink : ∀ a' U, s.WarmedH U.vm → (Cond.fieldLink "java/lang/Enum" 7 "java/lang/Enum" "ordinal" "I").before a' U = true) (x : Int32) (q : Addr) (A : Nat → Prop) :
    vx_Back l R p e below s sargs yOrd 3 8 (fun P a => P.cells ≤ R.cells ∧ P.slots ≤ R.slots ∧ a = #[.ref q] ∧ va_OF "java/lang/Enum" "ordinal" "I" (.int x) q A P.U P.U.heap)
      (fun P _ v P' => v = some (.int x) ∧ P'.U.heap = P.U.heap ∧ P'.locs = P.locs ∧ P'.cells = P.cells ∧ P'.slots = P.slots) (fun _ _ _ _ => False) := by
  intro m meth c P g ig mk a X hg hsize hdg hW hn hp
  obtain ⟨U, Ls, c0, s0⟩ := P
  dsimp only [Pt.U, Pt.locs, Pt.cells, Pt.slots] at X hn hp ⊢
  obtain ⟨h4, h5, rfl, hOF⟩ := hp
  obtain ⟨methY, cY, hmY, hcY, hbY, hlY, hrY, hkY, -, -⟩ := Cond.code_spec hn (hcode #[.ref q] U X.warmed)
  have h : At U g.method c below := by rw [hg]; exact X.here
  obtain ⟨mid, hmid⟩ := h.above
  have hfr : (U.setTop g).frames = (.java g :: mid) ++ below := by rw [State.frames_setTop' g h.top, hmid]; rfl
  obtain ⟨F, hF⟩ : ∃ F, F = (U.setTop g).frames := ⟨_, rfl⟩
  have hFt : F = .java g :: U.frames.tail := by rw [hF]; exact State.frames_setTop' g h.top
  have hroom : (U.calling g mk #[.ref q]).hasRoom e.platform ({ frames := 0, cells := 0, slots := 0, locals := 0 } : Room) = true :=
    X.room_calling (g := g) (R' := ({ frames := 0, cells := 0, slots := 0, locals := 0 } : Room)) hsize hmY hcY hframes (by rw [hlY]; show _ + 0 ≤ _; omega) h4 h5
  have hfc : (U.calling g mk #[.ref q]).frames = .invoking mk #[.ref q] :: F := by rw [hFt]; exact State.frames_calling h.top g mk _
  obtain ⟨s', hs'⟩ : ∃ z, z = U.calling g mk #[.ref q] := ⟨_, rfl⟩
  rw [← hs'] at hroom hfc
  have hvm' : s'.vm = U.vm := by rw [hs']; rfl
  have hhp' : s'.heap = U.heap := by rw [hs']; rfl
  have hcur := State.cur_lt_of_frames hfc
  have hnm' : s'.methodNamed? yOrd = some mk := by rw [hs']; exact hn
  have hm' : s'.vm.method? mk = some methY := by rw [hvm']; exact hmY
  have hf1 : (s'.setFrames (.java (entryFrame mk #[.ref q] 1) :: F)).frames = .java (entryFrame mk #[.ref q] 1) :: F := State.frames_setFrames _ hcur
  have ht1 := State.topJava?_of_frames hf1
  have hrun : s'.status = .running := by rw [hs']; exact h.running
  have hable : s'.curStatus? = some .runnable := by rw [hs']; simpa [State.calling] using h.runnable
  have halone : s'.alone = true := by rw [hs']; simpa [State.calling] using h.alone
  have hAt : At (s'.setFrames (.java (entryFrame mk #[.ref q] 1) :: F)) mk cY F :=
    ⟨by rw [ht1]; rfl, ⟨[], by rw [hf1]; rfl⟩, hrun, by simpa using hable, by simpa using halone,
      by rw [State.code?_eq]; simp [State.setFrames, hm', hcY], State.plainMethod.of_named (s := s') (plainFor_of_name (by decide)) hnm' hm'⟩
  have hhears : s'.hears mk F = true := by
    rw [hs', hFt]
    have hcc : (U.calling g mk #[.ref q]).code? g.method = some c := by
      have := h.code
      rw [State.code?_eq] at this ⊢
      simpa [State.calling, State.pushFrame, State.setFrames] using this
    simp [State.hears, hcc, hdg, Except.toOption]
  have X' : Stand p l e ({ frames := 0, cells := 0, slots := 0, locals := 0 } : Room) s' mk #[.ref q] F methY cY (s'.setFrames (.java (entryFrame mk #[.ref q] 1) :: F)) [] 0 0 := by
    obtain ⟨t, ht, -⟩ := State.frames_cons hfc
    refine ⟨X.admits, X.cas, X.clock, hfc, hroom, hhears, hm', hcY, hAt, by rw [hf1]; rfl, State.WarmedH.refl s', by rw [State.stackLimits_setFrames], by rw [State.stackBytes_setFrames], ?_⟩
    exact (State.sameButNew.refl s' ht).setFrames (.java (entryFrame mk #[.ref q] 1) :: F) hcur
  have hWU : s.WarmedH s'.vm := by rw [hvm']; exact X.warmed
  have hbody : W p l e ({ frames := 0, cells := 0, slots := 0, locals := 0 } : Room) s' mk #[.ref q] F methY cY s'.heap [] 0 0 (MQ F (fun _ st o t => o = .returned (some (.int x)) ∧ t.heap = st.heap) #[.ref q] s' 0 0 (fun _ => False)) (entryFrame mk ([.ref q] : List Value).toArray 1) := by
    have hl := lv_entry ([.ref q]) (n := 1) (Nat.le_of_ble_eq_true rfl)
    rw [lg_entry_eq]
    generalize (lg_sl ([.ref q]) ++ List.replicate (1 - (lg_sl ([.ref q])).length) Slot.unset).toArray = ls at hl ⊢
    have hl : lv_has ls 1 [(0, .ref q)] := hl
    have d0 : decode cOrd 0 = .ok (.aload_n 0, 1) := by decide +kernel
    have d1 : decode cOrd 1 = .ok (.getfield 7, 3) := by decide +kernel
    have d4 : decode cOrd 4 = .ok (.ireturn, 1) := by decide +kernel
    have hown : s'.vm.findClass "java/lang/Enum" = some mk.cls := findClass_of_methodNamed hnm'
    have hOF' : va_OF "java/lang/Enum" "ordinal" "I" (.int x) q A s' s'.heap := by
      rw [hhp']
      exact hOF.moved (by rw [hvm']; exact Vm.Alike.refl _)
    refine lv_aload_n hexec hbY d0 rfl (lv_at hl 0 rfl) ?_
    refine vk_getf hexec hbY hOF' (va_S.rf (A := A)) hown (hlink _ s' hWU) (fun _ z => z) d1 ?_
    exact W.iret hexec hbY hrY (fun t ht _ => ⟨rfl, ht⟩) (fun z hz => nomatch hz) d4 hkY
  obtain ⟨s₂, hst, o, hr2, hend, hqc, L, hfe, hL⟩ := hbody _ (by rfl) X'
  obtain ⟨rfl, hheap⟩ := hqc
  have hLn : L = [] := by
    cases L with
    | nil => rfl
    | cons z t => exact absurd (hL z List.mem_cons_self) (fun q => q)
  subst hLn
  have hst : Steps p.tables e below (doInvoke e (U.setTop g) [] mk #[.ref q]).1 s₂ := by
    have hdo : (doInvoke e (U.setTop g) [] mk #[.ref q]).1 = (s'.setFrames (.java (entryFrame mk #[.ref q] 1) :: F)).setTop (entryFrame mk #[.ref q] 1) := by
      have := doInvoke_enter (e := e) (g := g) (args := #[.ref q]) h.top [] hmY hcY hkY (X.notFull hsize (vars := cY.maxLocals) hframes (by rw [hlY]; omega))
      rw [this, hlY, hs', State.calling, State.pushFrame, State.pushFrame, State.setFrames_setFrames, hF]
    rw [hdo]
    obtain ⟨n, hn9, hw9⟩ := hst
    refine ⟨n, hn9, fun k hk => ?_⟩
    have hFF : F = (.java g :: mid) ++ below := by rw [hF, hfr]
    have h9 := hw9 k hk
    generalize stepsAlone p.tables e k _ = z9 at h9 ⊢
    rw [hFF] at h9
    exact h9.weaken
  have hend : Ended s₂ (.java g :: U.frames.tail) (.returned (some (.int x))) := by rw [← hFt]; exact hend
  obtain ⟨g₀, hg0⟩ := Option.isSome_iff_exists.mp h.top
  obtain ⟨r, hr⟩ := State.topJava?_eq_some.mp hg0
  have hr' : (({ U with heap := s₂.heap, slotsUsed := s₂.slotsUsed } : State).setVm s₂.vm).frames = .java g₀ :: r := hr
  rw [hs'] at hfe
  obtain ⟨⟨v, hv⟩, hW₂, e2, q2, q3, q4, q5, q6⟩ := id hfe
  cases hv
  have e3 : s₂ = ({ (U.calling g mk #[.ref q]).setFrames s₂.frames with heap := s₂.heap, slotsUsed := s₂.slotsUsed } : State).setVm s₂.vm := by
    have : s₂ = ({ s₂ with vm := (U.calling g mk #[.ref q]).vm } : State).setVm s₂.vm := rfl
    rw [e2] at this
    exact this
  obtain ⟨c₂, i₂, len₂, hc₂, hd₂, hf₂⟩ := hend
  have hW' : U.WarmedH s₂.vm := hW₂
  have hcc : c₂ = c := by
    have h1 : s₂.code? g.method = U.code? g.method := by
      rw [State.code?_eq, State.code?_eq, hW'.alike.method?]
    exact Option.some.inj (hc₂.symm.trans (h1.trans h.code))
  subst hcc
  have hlen : len₂ = 3 := by rw [hdg] at hd₂; cases hd₂; rfl
  subst hlen
  have hs₂ : s₂ = (({ U with heap := s₂.heap, slotsUsed := s₂.slotsUsed } : State).setVm s₂.vm).setTop { g with pc := g.pc + 3, stack := (some (Value.int x)).toList ++ g.stack } := by
    refine e3.trans ?_
    rw [hf₂, State.calling_eq h.top, State.setFrames_setFrames, State.setTop_of_frames _ hr', hr]
    rfl
  have hsame : U.sameButNew ({ U with heap := s₂.heap, slotsUsed := s₂.slotsUsed } : State) [] 0 0 := by
    refine ⟨?_, q2, q3, q4, q5, q6⟩
    obtain ⟨t, ht, -⟩ := State.frames_cons hr
    show ({ U with heap := s₂.heap, slotsUsed := s₂.slotsUsed } : State) = { U.setFrames U.frames with heap := s₂.heap, slotsUsed := s₂.slotsUsed }
    rw [State.setFrames_self ht]
  subst hg
  refine Or.inl ⟨some (.int x), ⟨(({ U with heap := s₂.heap, slotsUsed := s₂.slotsUsed } : State).setVm s₂.vm), Ls ++ [], c0 + 0, s0 + 0⟩,
    ⟨X.admits, X.cas, X.clock, X.frames, X.room, X.hears, X.method, X.code, (X.here.setHeapUsed s₂.heap s₂.slotsUsed).setVm hW'.alike, X.tail, State.WarmedH.trans X.warmed hW', X.limits, X.bytes, X.same.trans (hsame.setVm s.vm)⟩,
    ⟨rfl, hheap.trans hhp', by simp [Pt.locs], rfl, rfl⟩, ?_⟩
  show Steps p.tables e below _ ((({ U with heap := s₂.heap, slotsUsed := s₂.slotsUsed } : State).setVm s₂.vm).setTop { g with pc := g.pc + 3, stack := (some (Value.int x)).toList ++ g.stack })
  rw [← hs₂]
  exact hst
end Ord
