/-! Finding. -/
section SEEK
variable {Ls N N1 N2 k pc n n' nn b c t u a q d kb : Nat} {L L0 : mLs} {st r as : List mV} {h h' : mH} {σ σ' σ'' : Sg} {post : tP} {x y z x' y' i i' s v m w kd bv lv sh : Int} {xs ys tk ss ss2 : List Int} {els : List El} {e : mE} {D : TD} {o : Nat → Int} {S : GS} {ee : El} {l : Bool}
theorem elIs109.pk (hS : elIs 109 σ els tk kd) (hc : chg (pkR kb) (elC 120) σ σ') (hk : kb = 135 ∨ kb = 137) : elIs 109 σ' els tk kd := by
  obtain ⟨k1, k2, k3, k4, k5, k6⟩ := hS
  exact ⟨(hc.1 _ (by omega)).trans k1, (hc.1 _ (by omega)).trans k2, (hc.1 _ (by omega)).trans k3, (hc.1 _ (by omega)).trans k4, (hc.1 _ (by omega)).trans k5, (hc.2 _ _ (by omega)).trans k6⟩
end SEEK
