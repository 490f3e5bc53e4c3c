theorem am_k5 : (List.range 14).all (fun k => am_okM (59 + k)) = true := by decide +kernel
