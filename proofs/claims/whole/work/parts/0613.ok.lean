theorem am_k12 : (List.range 11).all (fun k => am_okM (155 + k)) = true := by decide +kernel
