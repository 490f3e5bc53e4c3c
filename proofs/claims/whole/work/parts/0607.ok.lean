theorem am_k6 : (List.range 7).all (fun k => am_okM (73 + k)) = true := by decide +kernel
