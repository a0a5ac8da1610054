def xWs : List Cond := xCast.map (fun q => Cond.castable q.1 q.2) ++ xDecl.map Cond.declares
theorem xAt0 : ∀ ei, ei < 5 → ei ≠ 3 → (vx_atS "GlowwormGrid" (icOf ei) (exName ei) exNames).all (fun w => decide (w ∈ gw) || decide (w ∈ xWs)) = true := by decide +kernel
theorem xGood0 : ∀ ei, ei < 5 → ei ≠ 3 → (vx_atS "GlowwormGrid" (icOf ei) (exName ei) exNames).all vx_ot = true := by decide +kernel
theorem xFit : ∀ ei, ei < 5 → Bundle.fit (exName ei) = true := by decide +kernel
theorem xFitN : ∀ n ∈ exNames, Bundle.fit n = true := by decide +kernel
