theorem am_k19 : (List.range 5).all (fun k => am_okM (217 + k)) = true := by decide +kernel
