set_option maxRecDepth 1000000 in
set_option maxHeartbeats 20000000 in
theorem start_W : (f_MF_init ([] ++ [.inr (8, [.null, .null, .null, .null, .null, .null, .null, .null, .null, .int 0])]) 0).bind (fun h1 => f_Mo_init (h1 ++ [.inr (9, [.null, .null, .null, .int 0, .null, .int 0, .int 0, .int 0, .int 0, .int 0, .int 0, .null, .null, .null, .null, .null, .null, .null, .null, .null, .int 0, .int 0, .null, .null, .null, .int 0, .int 0])]) h1.length) = some (Wd (fun _ _ => 0) I0 false) := by
  rfl
