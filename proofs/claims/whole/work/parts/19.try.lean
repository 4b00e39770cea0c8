set_option maxRecDepth 1000000 in
set_option maxHeartbeats 4000000 in
theorem try_a : ((mi_run tb_P 0 (fun _ => 0) (mi_call tb_P 0 (fun _ => 0) 10000 20) 0 60 0 [(0, .ref 0)] [] (1, 0, fun _ => mi_dead)).map (fun q => q.1)) = some (.inl (some (.int 1))) := by decide +kernel
