section T41
variable {sc : Nat × (Nat → Int32)} {net : Nat} {P : Nat → Option pm_M} {d : Nat} {z : pm_Z} {r : pm_O × pm_Z}
theorem bits_end {v n : Int32} : pm_go sc net P d mm185 (20, [some (.int v), some (.int n), some (.int 0)], []) z (.inl (some (.int n)), z) := pm_go.wf 2 rfl
theorem bits_loop {v n x : Int32} (k1 : x = 0 → pm_go sc net P d mm185 (20, [some (.int v), some (.int n), some (.int x)], []) z r) (k2 : ¬ x = 0 → pm_go sc net P d mm185 (4, [some (.int v), some (.int (n + 1)), some (.int (x &&& (x - 1)))], []) z r) : pm_go sc net P d mm185 (4, [some (.int v), some (.int n), some (.int x)], []) z r := by
  refine pm_go.wk 1 (t' := (5, [some (.int v), some (.int n), some (.int x)], [.int x])) (z' := z) rfl ?_
  refine pm_go.ifc (c := .eq) (off := 15) (t := 20) rfl rfl (fun h => k1 (of_decide_eq_true h)) (fun h => ?_)
  exact pm_go.wk 8 (t' := (4, [some (.int v), some (.int (n + 1)), some (.int (x &&& (x - 1)))], [])) (z' := z) rfl (k2 (of_decide_eq_false h))
theorem bits_start {v : Int32} (k : pm_go sc net P d mm185 (4, [some (.int v), some (.int 0), some (.int v)], []) z r) : pm_go sc net P d mm185 (0, pm_ini 3 [.int v], []) z r := pm_go.wk 4 (t' := (4, [some (.int v), some (.int 0), some (.int v)], [])) (z' := z) rfl k
end T41
