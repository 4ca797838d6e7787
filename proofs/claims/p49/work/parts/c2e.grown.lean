/-! ===== the number of exact covers: shapes of three and four cells ===== -/
def dirs4 : List (Int × Int) := [(1, 0), (-1, 0), (0, 1), (0, -1)]
def nxt (r : List (Int × Int)) : List (Int × Int) := (r.flatMap (fun a => dirs4.map (fun d => (a.1 + d.1, a.2 + d.2)))).filter (fun b => decide (b ∉ r))
