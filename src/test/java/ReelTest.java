/** Promises 12 to 14, 20, 25, 35, 37: pieces, overlaps, what is on the screen, the reel as a text. */
public final class ReelTest {
    private static final String LIBRARY = "shot 0 30;shot 1 20;shot 0 25;shot 2 40;shot 3 1;map rome;map oslo;";

    public static void main(String[] args) {
        pieces();
        mixes();
        reelNumbers();
        screen();
        share();
        edits();
        writeReel();
        output();
        Expect.end("ReelTest");
    }

    private static void pieces() {
        NewsReel x = Expect.made(LIBRARY, "shot 0 from 2 to 3;map 1 6;mix 4{shot 1;shot 2 from 5 to 14;};", "");
        int[][] due = {
            {0, 0, 2, 2, 0, 2, 0}, {1, 1, 0, 6, 2, 8, 0}, {0, 1, 0, 20, 8, 28, 0}, {0, 2, 5, 10, 24, 34, 4}};
        for (int piece = 0; piece < due.length; piece++) {
            for (int what = 0; what < 7; what++) {
                Expect.due("piece " + piece + " " + what, x.piece(piece, what), due[piece][what]);
            }
        }
        Expect.throwsIndex("piece(4, 0)", () -> x.piece(4, 0));
        Expect.throwsIndex("piece(-1, 7)", () -> x.piece(-1, 7));
        Expect.throwsArgument("piece(3, 7)", () -> x.piece(3, 7));
        Expect.throwsArgument("piece(3, -1)", () -> x.piece(3, -1));
    }

    private static void overlaps(String reel, int... due) {
        NewsReel x = Expect.made(LIBRARY, reel, "");
        Expect.due("pieces of " + reel, x.reel(0), due.length);
        int sum = 0;
        for (int piece = 0; piece < due.length; piece++) {
            Expect.due("overlap of piece " + piece + " of " + reel, x.piece(piece, 6), due[piece]);
            sum += due[piece];
        }
        Expect.due("all overlaps of " + reel, x.reel(6), sum);
    }

    private static void mixes() {
        overlaps("shot 0;mix 4{shot 0;};shot 0;", 0, 0, 0);
        overlaps("mix 4{shot 0;};mix 4{shot 0;};", 0, 0);
        overlaps("mix 4{shot 0;repeat 3{shot 1;};shot 0;};", 0, 4, 4, 4, 4);
        overlaps("repeat 3{mix 4{shot 0;shot 1;};};", 0, 4, 0, 4, 0, 4);
        overlaps("mix 3{repeat 2{mix 4{shot 0;shot 1;};};};", 0, 4, 3, 4);
        overlaps("mix 3{mix 0{shot 0;shot 1;};shot 0;};", 0, 0, 3);
        overlaps("mix 3{shot 0;mix 5{mix 7{shot 0;};mix 2{shot 0;shot 0;};};};shot 0;", 0, 3, 5, 2, 0);
        overlaps("shot 0;mix 3{mix 5{};shot 0;};", 0, 0);
        overlaps("shot 0;mix 3{mix 5{repeat 9{};};shot 0;shot 0;};", 0, 0, 3);
        overlaps("mix 3{shot 0;mix 5{};shot 0;};", 0, 3);
        overlaps("mix 3{shot 0;mix 5{mix 1{};};mix 7{shot 0;shot 0;};};", 0, 3, 7);
        overlaps("mix 40{shot 0;shot 1;shot 2;shot 4;shot 4;map 0 3;map 0 80;map 0 81;}; ", 0, 10, 10, 0, 0, 0, 1, 40);
        overlaps("mix 9{repeat 2{mix 8{mix 7{shot 0;};shot 0;};};};", 0, 8, 9, 8);
    }

    private static void reelNumbers() {
        NewsReel x = Expect.made(LIBRARY + "speed 5;", "shot 0 from 0 to 3;map 0 6;mix 4{shot 1;shot 2 from 5 to 14;};"
                + "repeat 2{mix 3{map 1 5;shot 3 from 0 to 9;};};", "we saw. rome.");
        int[] due = {8, 62, 30, 32, 2, 20, 8};
        for (int what = 0; what < due.length; what++) {
            Expect.due("reel " + what, x.reel(what), due[what]);
        }
        Expect.throwsArgument("reel(7)", () -> x.reel(7));
        Expect.throwsArgument("reel(-1)", () -> x.reel(-1));
        Expect.edit(x, "shot 4;");
        Expect.due("the END less the voice's end", x.reel(3), -29);
        String[] nested = {"", "shot 0;", "mix 0{};", "shot 0;repeat 1{mix 1{};};mix 0{};", "mix 1{mix 1{mix 1{mix 1{};};};};"};
        for (int i = 0; i < nested.length; i++) {
            Expect.edit(x, nested[i]);
            Expect.due("blocks in one another of " + nested[i], x.reel(4), new int[] {0, 0, 1, 2, 4}[i]);
        }
        Expect.due("END without pieces", x.reel(1), 0);
        Expect.due("longest without pieces", x.reel(5), 0);
    }

    private static void screen() {
        NewsReel x = Expect.made(LIBRARY, "mix 4{map 0 10;map 1 10;};map 0 1;map 0 2;", "");
        int[] due = {0, 0, 0, 0, 0, 0, 1, 1, 1, 1, 1, 1, 1, 1, 1, 1, 2, 3, 3, -1};
        for (int frame = 0; frame < due.length; frame++) {
            Expect.due("screen " + frame, x.screen(frame), due[frame]);
        }
        Expect.due("screen(-1)", x.screen(-1), -1);
        Expect.due("screen(MIN)", x.screen(Integer.MIN_VALUE), -1);
        Expect.due("screen(MAX)", x.screen(Integer.MAX_VALUE), -1);
    }

    private static void share() {
        NewsReel x = Expect.made(LIBRARY, "mix 5{shot 0;shot 1;map 0 9;shot 2 from 0 to 9;};", "");
        // From 0 to 24 shot 0, to 40 shot 1, to 45 the map, to 55 shot 2.
        Expect.due("END", x.reel(1), 56);
        Expect.dueReal("share 0", x.share(0), (double) 35 / (double) 56);
        Expect.dueReal("share 1", x.share(1), (double) 16 / (double) 56);
        Expect.dueReal("share 2", x.share(2), 0.0);
        Expect.dueReal("share 5", x.share(5), 0.0);
        Expect.throwsIndex("share(6)", () -> (long) x.share(6));
        Expect.throwsIndex("share(-1)", () -> (long) x.share(-1));
        NewsReel empty = new NewsReel();
        Expect.dueReal("share of an empty reel", empty.share(0), 0.0);
        Expect.throwsIndex("share(6) of an empty reel", () -> (long) empty.share(6));
    }

    private static void edits() {
        NewsReel x = new NewsReel();
        Expect.load(x, LIBRARY);
        Expect.due("edit", Expect.edit(x, "shot 0;shot 1;"), 2);
        Expect.due("edit of 60 pieces", Expect.edit(x, "repeat 6{repeat 5{shot 0;map 0 1;};};"), 60);
        Expect.due("items", x.count(8), 1);
        Expect.due("all items", x.count(9), 4);
        Expect.due("edit of 61 pieces", Expect.edit(x, "repeat 6{repeat 5{shot 0;map 0 1;};};shot 0;"), -2);
        Expect.due("edit of very many pieces",
                Expect.edit(x, "repeat 9{repeat 9{repeat 9{repeat 9{" + "shot 0;".repeat(26) + "};};};};"), -2);
        Expect.due("errorCode", x.errorCode(), 0);
        Expect.due("account(2)", x.account(2), 2);
        Expect.due("account(0)", x.account(0), 2);
        Expect.due("pieces", x.reel(0), 60);
        Expect.throwsArgument("truncateText(1)", () -> x.truncateText(1));
        Expect.due("edit of an empty text", Expect.edit(x, ""), 0);
        Expect.due("edit of many empty blocks",
                Expect.edit(x, "repeat 9{repeat 9{repeat 9{" + "repeat 9{};".repeat(27) + "};};};"), 0);
        Expect.due("undo", x.undo(), 3);
        Expect.due("undo", x.undo(), 2);
        Expect.due("pieces after undo", x.reel(0), 60);
        Expect.due("undo", x.undo(), 1);
        Expect.due("pieces after undo", x.reel(0), 2);
    }

    private static void written(String reel, String due) {
        NewsReel x = Expect.made(LIBRARY, reel, "");
        Expect.dueText("writeReel of " + reel, Expect.reelText(x), due);
        Expect.due("edit of what was written", Expect.edit(x, due), x.reel(0));
    }

    private static void writeReel() {
        written("", "");
        written(" shot 00 ; shot1from0to19;", "shot 0;shot 1;");
        written("shot 0 from 0 to 28;shot 0 from 1 to 29;shot 4 from 0 to 0;",
                "shot 0 from 0 to 28;shot 0 from 1 to 29;shot 4;");
        written("map 0 400; map 1 007;", "map 0 400;map 1 7;");
        written("repeat 2 { mix 40 { } ; shot 0 ; } ; shot 1 ; mix 0 { repeat 1 { map 0 10 ; } ; } ;",
                "repeat 2{mix 40{};shot 0;};shot 1;mix 0{repeat 1{map 0 10;};};");
        written("mix 1{mix 2{mix 3{mix 4{};};};};mix 5{};", "mix 1{mix 2{mix 3{mix 4{};};};};mix 5{};");
    }

    private static void output() {
        NewsReel x = Expect.made(LIBRARY, "shot 0;", "a.");
        Expect.due("output before writing", x.output(0), -1);
        Expect.due("writeReel", x.writeReel(), 7);
        Expect.due("output(0)", x.output(0), 's');
        Expect.due("output(6)", x.output(6), ';');
        Expect.due("output(7)", x.output(7), -1);
        Expect.due("output(-1)", x.output(-1), -1);
        Expect.due("output(MAX)", x.output(Integer.MAX_VALUE), -1);
        x.remove(0);
        x.undo();
        x.undo();
        Expect.dueText("output after undo", Expect.output(x), "shot 0;");
        Expect.due("writeVoice", x.writeVoice(), 0);
        Expect.due("output(0) then", x.output(0), -1);
    }
}
