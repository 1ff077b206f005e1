/** Promises 16 and 25: rows WRITTEN to the output; and 20: those of an answer, with some fields alone. */
public final class ShowTest {
    private static final String SCHEMA = "required long id;optional group links{repeated long back;repeated long fore;}"
            + "repeated group name{repeated group lang{required text code;optional text land;}optional text url;}";
    private static final String FIRST = "{id:10,links:{fore:[20,40,60]},name:[{lang:[{code:'en-us',land:'us'},{code:'en'}],"
            + "url:'http://A'},{url:'http://B'},{lang:[{code:'en-gb',land:'gb'}]}]}";
    private static final String SECOND = "{id:20,links:{back:[10,30],fore:[80]},name:[{url:'http://C'}]}";

    public static void main(String[] args) {
        whole();
        forms();
        deep();
        outputs();
        tooLong();
        someFields();
        VaultKit.finish();
    }

    private static void whole() {
        int[][] ways = {{1, 1}, {2, 1}, {100, 100}, {1, 2000}, {1000, 1}};
        for (int[] way : ways) {
            StripedVault v = VaultKit.opened(VaultKit.vault(SCHEMA, FIRST, SECOND, "{id:-3,name:[]}", "{id:0,links:{}}"),
                    way[0], way[1]);
            VaultKit.due("first", VaultKit.show(v, 0), FIRST);
            VaultKit.due("second", VaultKit.show(v, 1), SECOND);
            VaultKit.due("what lacks isn't written", VaultKit.show(v, 2), "{id:-3}");
            VaultKit.due("an empty group is", VaultKit.show(v, 3), "{id:0,links:{}}");
            VaultKit.due("none", v.show(4), -1);
        }
    }

    private static void row(String schema, String record, String want) {
        StripedVault v = VaultKit.opened(VaultKit.vault(schema, record), 10, 10);
        VaultKit.due("row of " + record, VaultKit.show(v, 0), want);
    }

    private static void forms() {
        row("optional int a;", " { } ", "{}");
        row("repeated int a;optional bool b;", "{ a : [ ] , b : false }", "{b:false}");
        row("required int a;required long l;", "{a:-2147483648,l:-9223372036854775808}", "{a:-2147483648,l:-9223372036854775808}");
        row("required int a;required long l;", "{a:2147483647,l:9223372036854775807}", "{a:2147483647,l:9223372036854775807}");
        row("repeated bool b;", "{b:[true,false,true]}", "{b:[true,false,true]}");
        row("required text t;", "{t:'\\x41\\x0a\\x7f\\xff\\x27\\x5c\\x20~\\''}", "{t:'A\\x0a\\x7f\\xff\\'\\\\ ~\\''}");
        row("required text t;", "{t:'\\x00\\x1f\\x80\\xab'}", "{t:'\\x00\\x1f\\x80\\xab'}");
        row("repeated group g{optional int a;}", "{g:[{},{a:1},{},{}]}", "{g:[{},{a:1},{},{}]}");
    }

    private static void deep() {
        int most = 16;
        String schema = "repeated group g{".repeat(most) + "repeated int a;" + "}".repeat(most);
        String record = "{g:[".repeat(most) + "{a:[1,2]},{},{a:[3]}" + "]}".repeat(most);
        row(schema, record, record);
        String half = "{g:[".repeat(7) + "{}" + "]}".repeat(7);
        row(schema, half, half);
    }

    private static void outputs() {
        StripedVault v = VaultKit.opened(VaultKit.vault("required int a;", "{a:5}"), 1, 1);
        VaultKit.due("nothing yet", v.output(0), -1);
        VaultKit.due("show", v.show(0), 5);
        VaultKit.due("output", v.output(0), '{');
        VaultKit.due("last", v.output(4), '}');
        VaultKit.due("behind", v.output(5), -1);
        VaultKit.due("before", v.output(-1), -1);
        VaultKit.query(v, "select a");
        v.run();
        v.write(1, 1);
        VaultKit.due("only show and answer make it anew", v.output(3), '5');
        VaultKit.due("none such", v.show(1), -1);
        VaultKit.due("no output", v.output(0), -1);
        VaultKit.due("answer", v.answer(0), 5);
        VaultKit.due("output", VaultKit.output(v), "{a:5}");
        VaultKit.due("open", v.open(), 0);
        VaultKit.due("it stays when it is opened", VaultKit.output(v), "{a:5}");
        VaultKit.due("no answer", v.answer(0), -1);
        VaultKit.due("no output", v.output(0), -1);
        VaultKit.due("show", v.show(-1), -1);
        v.show(0);
        v.poke(0, 0);
        v.open();
        VaultKit.due("nothing open", v.show(0), -1);
        VaultKit.due("no output", v.output(0), -1);
    }

    /**
     * Four bytes of output for each byte of a text: 255 of them make 1020, and 3 for what is around them.
     * The rest is how many bytes the last text has in the output.
     */
    private static byte[] longRow(int texts, int rest) {
        byte[] told = VaultKit.cat(VaultKit.varint(255), "\u0001".repeat(255));
        int inFirst = 70;
        byte[] file = new byte[0];
        byte[] footer = new byte[0];
        int[] counts = {inFirst, texts - inFirst};
        for (int c = 0; c < 2; c++) {
            byte[] n = VaultKit.varint(counts[c]);
            byte[] ones = VaultKit.cat(VaultKit.varint(2L * (counts[c] - 1)), 1);
            byte[] page = VaultKit.page(VaultKit.cat(n, 0, 3, told, told),
                    VaultKit.sized(2, 0, ones), VaultKit.sized(VaultKit.varint(2L * counts[c]), 1),
                    1, told, 0, VaultKit.varint(2L * counts[c]));
            file = VaultKit.cat(file, page);
            footer = VaultKit.cat(footer, VaultKit.varint(page.length), 1, n, 0, told, told);
        }
        String tail = "\u0001".repeat(180) + "q".repeat(rest - 720);
        byte[] last = VaultKit.cat(VaultKit.varint(tail.length()), tail);
        byte[] page = VaultKit.page(VaultKit.cat(1, 0, 0, last, last), last);
        return VaultKit.frame(VaultKit.cat(file, page), 3, 11, 0, 1, "a", 11, 0, 1, "b", 9, 0, 1, "c", 1, 1, 1,
                footer, VaultKit.varint(page.length), 1, 1, 0, last, last);
    }

    private static void tooLong() {
        // {a:[..],b:[..],c:'..'} has 2 + 4 + 1 + 4 + 1 + 4 bytes around the texts, each text 1023 with its comma, but one.
        int texts = 97;
        int around = 16 + texts * 1023 - 2;
        StripedVault v = VaultKit.taken(longRow(texts, 100000 - around));
        VaultKit.due("open", v.open(), 0);
        VaultKit.due("as long as can be", v.show(0), 100000);
        VaultKit.due("the last byte", v.output(99999), '}');
        v = VaultKit.taken(longRow(texts, 100001 - around));
        VaultKit.due("open", v.open(), 0);
        VaultKit.due("one byte more", v.show(0), -1);
        VaultKit.due("no output", v.output(0), -1);
        VaultKit.query(v, "select a,b,c");
        VaultKit.due("run", v.run(), 1);
        VaultKit.due("one byte more", v.answer(0), -1);
        VaultKit.due("no output", v.output(0), -1);
        VaultKit.query(v, "select a,b");
        VaultKit.due("the run before counts", v.answer(0), -1);
        v.run();
        VaultKit.due("some fields alone", v.answer(0), 2 + 4 + 1 + 4 + texts * 1023 - 2);
    }

    private static void answers(StripedVault v, String items, String first, String second) {
        VaultKit.due("query", VaultKit.query(v, "select " + items), -1);
        VaultKit.due("run", v.run(), 2);
        VaultKit.due("answer", v.answer(0), first.length());
        VaultKit.due(items, VaultKit.output(v), first);
        VaultKit.due("answer", v.answer(1), second.length());
        VaultKit.due(items, VaultKit.output(v), second);
        VaultKit.due("behind", v.answer(2), -1);
        VaultKit.due("before", v.answer(-1), -1);
    }

    private static void someFields() {
        StripedVault v = VaultKit.opened(VaultKit.vault(SCHEMA, FIRST, SECOND), 2, 1);
        answers(v, "id", "{id:10}", "{id:20}");
        answers(v, "links", "{links:{fore:[20,40,60]}}", "{links:{back:[10,30],fore:[80]}}");
        answers(v, "links.back", "{links:{}}", "{links:{back:[10,30]}}");
        answers(v, "name.url , id, name.url", "{id:10,name:[{url:'http://A'},{url:'http://B'},{}]}", "{id:20,name:[{url:'http://C'}]}");
        answers(v, "name.lang.land", "{name:[{lang:[{land:'us'},{}]},{},{lang:[{land:'gb'}]}]}", "{name:[{}]}");
        answers(v, "name.lang", "{name:[{lang:[{code:'en-us',land:'us'},{code:'en'}]},{},{lang:[{code:'en-gb',land:'gb'}]}]}", "{name:[{}]}");
    }
}
