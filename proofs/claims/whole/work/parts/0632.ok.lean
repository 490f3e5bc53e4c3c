theorem am_k31 : (List.range 12).all (fun k => am_okM (287 + k)) = true := by decide +kernel
