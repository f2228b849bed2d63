/** Boundary cases of the term THE REEL and of promises 12 to 14, 20, 25, 35 and 37, sentence by sentence. */
public final class ReelBoundsTest {
    private static final String SIXTY = "repeat 6{repeat 5{shot 0;shot 1;};};";

    public static void main(String[] args) {
        cuts();
        wholeShots();
        heldMaps();
        times();
        orderOfPieces();
        sixtyPieces();
        begins();
        halfOfTheShorter();
        mostOverlap();
        innermostMix();
        doings();
        emptyBlocks();
        there();
        onTheScreen();
        screen();
        endOfTheReel();
        pieceNumbers();
        pieceExceptions();
        reelNumbers();
        blocks();
        longestPiece();
        share();
        edit();
        tooManyPieces();
        editWithAnError();
        writeReel();
        longestOutput();
        output();
        Expect.end("ReelBoundsTest");
    }

    private static NewsReel made(String reel) {
        return Expect.made(Expect.LIBRARY, reel, "");
    }

    private static void cuts() {
        Expect.sentence("THE REEL", "a cut of a shot (the frames FIRST to LAST, both with it, 0 to LENGTH less 1)");
        NewsReel x = Expect.made("shot 0 400;shot 1 1;", "shot 0 from 0 to 0;shot 0 from 399 to 399;shot 0 from 0 to 399;shot 0 from 0 to 398;"
                + "shot 0 from 1 to 399;shot 1 from 0 to 0;", "");
        Expect.dueRow("FIRST of piece", i -> x.piece(i, 2), 0, 399, 0, 0, 1, 0);
        Expect.dueRow("frames of piece", i -> x.piece(i, 3), 1, 1, 400, 399, 399, 1);
        String[] wrong = {"shot 0 from 400 to 400;", "shot 1 from 1 to 1;"};
        for (String text : wrong) {
            Expect.due("edit of " + text, Expect.edit(x, text), -1);
            Expect.due("errorCode of " + text, x.errorCode(), 2);
            Expect.due("errorPosition of " + text, x.errorPosition(), 12);
        }
        Expect.due("edit of a LAST of 400", Expect.edit(x, "shot 0 from 0 to 400;"), -1);
        Expect.due("its errorPosition", x.errorPosition(), 17);
        Expect.due("edit of a LAST ahead of FIRST", Expect.edit(x, "shot 0 from 399 to 398;"), -1);
        Expect.due("its errorPosition", x.errorPosition(), 19);
    }

    private static void wholeShots() {
        Expect.sentence("TEXTS", "Without \"from\" a cut has the whole shot");
        NewsReel x = Expect.made("shot 0 400;shot 1 1;", "shot 0;shot 1;", "");
        Expect.dueRow("piece 0", what -> x.piece(0, what), 0, 0, 0, 400, 0, 400, 0);
        Expect.dueRow("piece 1", what -> x.piece(1, what), 0, 1, 0, 1, 400, 401, 0);
    }

    private static void heldMaps() {
        Expect.sentence("THE REEL", "a map that is held for some frames (1 to 400)");
        NewsReel x = made("map 0 1;map 1 400;");
        Expect.dueRow("piece 0", what -> x.piece(0, what), 1, 0, 0, 1, 0, 1, 0);
        Expect.dueRow("piece 1", what -> x.piece(1, what), 1, 1, 0, 400, 1, 401, 0);
        Expect.reel("map 0 0;", -1, 2, 6);
        Expect.reel("map 0 401;", -1, 2, 6);
    }

    private static void times() {
        Expect.sentence("THE REEL", "a repetition of a row of items (1 to 9 TIMES)");
        Expect.reel("repeat 1{shot 0;};", 1);
        Expect.reel("repeat 9{shot 0;};", 9);
        Expect.reel("repeat 9{repeat 1{map 0 1;shot 0;};};", 18);
        Expect.reel("repeat 0{shot 0;};", -1, 2, 7);
        Expect.reel("repeat 10{shot 0;};", -1, 2, 7);
    }

    private static void orderOfPieces() {
        Expect.sentence("THE REEL",
                "Its pieces are the cuts and maps in the order in which one comes to them,",
                "those of a repetition TIMES times one row behind the other.");
        NewsReel x = made("map 0 1;repeat 2{map 0 2;repeat 2{map 0 3;map 0 4;};map 0 5;};repeat 1{map 0 6;};map 0 7;");
        Expect.due("pieces", x.reel(0), 15);
        Expect.dueRow("frames of piece", i -> x.piece(i, 3), 1, 2, 3, 4, 3, 4, 5, 2, 3, 4, 3, 4, 5, 6, 7);
    }

    private static void sixtyPieces() {
        Expect.sentence("THE REEL", "There are at most 60 pieces, numbered from 0.");
        NewsReel none = made("");
        Expect.throwsIndexAround("a piece of none", i -> none.piece(i, 0), 0);
        NewsReel one = made("shot 1;");
        Expect.throwsIndexAround("a piece of one", i -> one.piece(i, 0), 1);
        NewsReel all = made(SIXTY);
        Expect.due("pieces", all.reel(0), 60);
        Expect.due("the shot of piece 59", all.piece(59, 1), 1);
        Expect.due("piece 59 ends", all.piece(59, 5), 1500);
        Expect.throwsIndexAround("a piece of sixty", i -> all.piece(i, 0), 60);
        Expect.reel("map 0 1;repeat 6{repeat 5{shot 0;shot 1;};};", -2);
        Expect.reel("repeat 6{repeat 5{shot 0;shot 1;};};map 0 1;", -2);
        Expect.reel("repeat 6{repeat 9{shot 0;};};repeat 6{shot 1;};", 60);
        Expect.reel("repeat 6{repeat 9{shot 0;};};repeat 7{shot 1;};", -2);
    }

    private static void begins() {
        Expect.sentence("THE REEL",
                "A piece is as long as it has frames.",
                "Piece 0 begins at frame 0; each other one begins as the one ahead of it ends, less its overlap.");
        NewsReel x = made("mix 40{map 0 1;map 0 2;map 0 3;map 0 400;map 0 400;};map 0 1;");
        Expect.dueRow("begin of piece", i -> x.piece(i, 4), 0, 1, 2, 4, 364, 764);
        Expect.dueRow("end of piece", i -> x.piece(i, 5), 1, 3, 5, 404, 764, 765);
        Expect.dueRow("overlap of piece", i -> x.piece(i, 6), 0, 0, 1, 1, 40, 0);
    }

    private static void halfOfTheShorter() {
        Expect.sentence("THE REEL", "but at most half (rounded down) of the shorter one of both pieces");
        int[] frames = {1, 2, 3, 4, 79, 80, 81, 400};
        int[] overlaps = {0, 1, 2, 39, 40};
        for (int ahead : frames) {
            for (int behind : frames) {
                for (int overlap : overlaps) {
                    int half = (ahead < behind ? ahead : behind) / 2;
                    int due = overlap < half ? overlap : half;
                    NewsReel x = made("mix " + overlap + "{map 0 " + ahead + ";map 1 " + behind + ";};");
                    String told = "a mix " + overlap + " of " + ahead + " and " + behind;
                    Expect.due("overlap of " + told, x.piece(1, 6), due);
                    Expect.due("begin of " + told, x.piece(1, 4), ahead - due);
                    Expect.due("END of " + told, x.reel(1), ahead + behind - due);
                }
            }
        }
        NewsReel three = made("mix 40{map 0 400;map 0 3;map 0 400;map 0 1;map 0 400;};");
        Expect.dueRow("overlap of piece", i -> three.piece(i, 6), 0, 1, 1, 0, 0);
    }

    private static void mostOverlap() {
        Expect.sentence("THE REEL", "a mix of a row of items with an OVERLAP (0 to 40)");
        NewsReel least = made("mix 0{map 0 80;map 1 80;};");
        Expect.due("overlap of a mix of 0", least.piece(1, 6), 0);
        NewsReel most = made("mix 40{map 0 400;map 1 400;};");
        Expect.due("overlap of a mix of 40", most.piece(1, 6), 40);
        Expect.reel("mix 41{map 0 400;map 1 400;};", -1, 2, 4);
    }

    private static void overlaps(String reel, long... due) {
        NewsReel x = made(reel);
        Expect.due("pieces of " + reel, x.reel(0), due.length);
        Expect.dueRow("overlap of " + reel + " piece", i -> x.piece(i, 6), due);
    }

    private static void innermostMix() {
        Expect.sentence("THE REEL",
                "The overlap of a piece is that of the innermost mix that has both it and the piece ahead of it",
                "it is 0 without such a mix.");
        overlaps("shot 0;shot 0;", 0, 0);
        overlaps("mix 4{shot 0;};", 0);
        overlaps("shot 0;mix 4{shot 0;};shot 0;", 0, 0, 0);
        overlaps("mix 4{shot 0;};mix 5{shot 0;};", 0, 0);
        overlaps("mix 1{mix 2{mix 3{mix 4{shot 0;shot 0;};shot 0;};shot 0;};shot 0;};shot 0;", 0, 4, 3, 2, 1, 0);
        overlaps("shot 0;mix 1{shot 0;mix 2{shot 0;mix 3{shot 0;mix 4{shot 0;shot 0;};};};};", 0, 0, 1, 2, 3, 4);
        overlaps("mix 9{mix 1{shot 0;shot 0;};mix 2{shot 0;shot 0;};};", 0, 1, 9, 2);
        overlaps("mix 9{mix 0{shot 0;shot 0;};shot 0;};", 0, 0, 9);
        overlaps("mix 0{mix 9{shot 0;shot 0;};shot 0;};", 0, 9, 0);
        overlaps("mix 9{mix 8{mix 7{mix 6{shot 0;};};};mix 5{mix 4{shot 0;};shot 0;};};", 0, 9, 5);
    }

    private static void doings() {
        Expect.sentence("THE REEL", "of the same doing of that mix; of two doings a mix around the repetition can have both");
        overlaps("repeat 3{mix 4{shot 0;};};", 0, 0, 0);
        overlaps("repeat 2{mix 4{shot 0;shot 0;};};", 0, 4, 0, 4);
        overlaps("mix 4{repeat 3{shot 0;};};", 0, 4, 4);
        overlaps("mix 9{repeat 3{mix 4{shot 0;};};};", 0, 9, 9);
        overlaps("mix 9{repeat 2{mix 4{shot 0;shot 0;};};};", 0, 4, 9, 4);
        overlaps("mix 9{mix 8{repeat 2{mix 4{shot 0;shot 0;};};};};", 0, 4, 8, 4);
        overlaps("repeat 2{mix 9{repeat 2{mix 4{shot 0;shot 0;};};};};", 0, 4, 9, 4, 0, 4, 9, 4);
        overlaps("mix 9{repeat 2{mix 4{shot 0;};shot 0;};};", 0, 9, 9, 9);
        overlaps("mix 9{repeat 1{mix 4{shot 0;};};repeat 1{shot 0;};};", 0, 9);
        overlaps("repeat 2{mix 4{repeat 2{shot 0;};};shot 0;};", 0, 4, 0, 0, 4, 0);
    }

    private static void emptyBlocks() {
        Expect.sentence("Promise 13", "(empty ones, too)");
        overlaps("mix 4{};", new long[0]);
        overlaps("repeat 9{repeat 9{repeat 9{repeat 9{};};};};", new long[0]);
        overlaps("shot 0;mix 4{};shot 0;", 0, 0);
        overlaps("repeat 9{};mix 4{shot 0;shot 0;};", 0, 4);
        overlaps("mix 4{};repeat 2{shot 0;};", 0, 0);
        overlaps("mix 9{repeat 9{};mix 4{shot 0;shot 0;};repeat 9{mix 3{};};};", 0, 4);
        overlaps("mix 4{mix 9{};shot 0;repeat 9{mix 8{};};shot 0;mix 7{};};", 0, 4);
        overlaps("mix 4{shot 0;};mix 5{repeat 9{};};mix 6{shot 0;mix 7{};shot 0;};", 0, 0, 6);
    }

    private static void there() {
        Expect.sentence("THE REEL", "A piece is there from the frame in which it begins up to the one ahead of that in which it ends.");
        NewsReel x = made("map 0 1;map 0 2;shot 1 from 19 to 19;");
        Expect.dueRow("screen", x::screen, 0, 1, 1, 2, -1);
        for (int frame : new int[] {Integer.MIN_VALUE, Integer.MIN_VALUE + 1, -2, -1, 4, 5, Integer.MAX_VALUE - 1, Integer.MAX_VALUE}) {
            Expect.due("screen in " + frame, x.screen(frame), -1);
        }
        NewsReel most = Expect.made("shot 0 400;", "repeat 6{repeat 5{shot 0;shot 0;};};", "");
        int[] frames = {0, 399, 400, 799, 23599, 23600, 23999, 24000};
        int[] due = {0, 0, 1, 1, 58, 59, 59, -1};
        for (int i = 0; i < frames.length; i++) {
            Expect.due("screen in " + frames[i], most.screen(frames[i]), due[i]);
        }
    }

    private static void onTheScreen() {
        Expect.sentence("THE REEL", "On the screen is, of the pieces that are there, the one with the greatest number.");
        NewsReel x = made("mix 2{map 0 4;map 0 5;map 0 4;};");
        // They begin in 0, 2 and 5 and end in 4, 7 and 9.
        Expect.dueRow("screen", x::screen, 0, 0, 1, 1, 1, 2, 2, 2, 2, -1);
        NewsReel one = made("mix 1{map 0 2;map 0 2;map 0 2;};");
        Expect.dueRow("screen", one::screen, 0, 1, 2, 2, -1);
        NewsReel none = made("repeat 2{};");
        for (int frame : new int[] {Integer.MIN_VALUE, -1, 0, 1, Integer.MAX_VALUE}) {
            Expect.due("screen without pieces in " + frame, none.screen(frame), -1);
        }
    }

    private static void screen() {
        Expect.sentence("Promise 14", "Returns the piece that is on the screen in it; NONE if there is none.");
        NewsReel x = made("map 0 1;map 0 1;map 0 400;");
        int[] frames = {Integer.MIN_VALUE, -1, 0, 1, 2, 401, 402, Integer.MAX_VALUE};
        int[] due = {-1, -1, 0, 1, 2, 2, -1, -1};
        for (int i = 0; i < frames.length; i++) {
            Expect.due("screen in " + frames[i], x.screen(frames[i]), due[i]);
        }
        Expect.due("a shorter reel", Expect.edit(x, "map 0 2;"), 1);
        Expect.dueRow("screen of a shorter reel", x::screen, 0, 0, -1, -1);
        Expect.due("an empty reel", Expect.edit(x, "mix 0{};"), 0);
        Expect.dueRow("screen of an empty reel", x::screen, -1, -1);
    }

    private static void endOfTheReel() {
        Expect.sentence("THE REEL", "The END is the greatest frame in which a piece ends (0 without pieces).");
        Expect.due("END of an empty reel", made("").reel(1), 0);
        Expect.due("END of empty blocks", made("repeat 9{};mix 40{};").reel(1), 0);
        Expect.due("END of one frame", made("map 0 1;").reel(1), 1);
        Expect.due("END of a mix with a short last piece", made("mix 40{map 0 100;map 0 2;};").reel(1), 101);
        Expect.due("END of a mix with a last piece of one frame", made("mix 40{map 0 100;map 0 1;};").reel(1), 101);
        NewsReel most = Expect.made("shot 0 400;", "repeat 6{repeat 5{shot 0;shot 0;};};", "");
        Expect.due("END of the longest reel", most.reel(1), 24000);
        Expect.due("edit of a shorter one", Expect.edit(most, "shot 0;"), 1);
        Expect.due("END of the shorter reel", most.reel(1), 400);
        Expect.due("edit of none", Expect.edit(most, ""), 0);
        Expect.due("END of an empty reel again", most.reel(1), 0);
    }

    private static void pieceNumbers() {
        Expect.sentence("Promise 12",
                "0: 0 a shot, 1 a map; 1: the number of the shot or map; 2: FIRST (0 of a map); 3: its frames;",
                "4: the frame in which it begins; 5: the frame in which it ends; 6: its overlap");
        NewsReel x = Expect.made("shot 0 9;".repeat(11) + "shot 5 400;map a;map b;map c;map d;map e;map f;",
                "shot 11 from 399 to 399;map 5 400;mix 40{shot 11;map 0 400;shot 0 from 8 to 8;};", "");
        Expect.dueRow("piece 0", what -> x.piece(0, what), 0, 11, 399, 1, 0, 1, 0);
        Expect.dueRow("piece 1", what -> x.piece(1, what), 1, 5, 0, 400, 1, 401, 0);
        Expect.dueRow("piece 2", what -> x.piece(2, what), 0, 11, 0, 400, 401, 801, 0);
        Expect.dueRow("piece 3", what -> x.piece(3, what), 1, 0, 0, 400, 761, 1161, 40);
        Expect.dueRow("piece 4", what -> x.piece(4, what), 0, 0, 8, 1, 1161, 1162, 0);
    }

    private static void pieceExceptions() {
        Expect.sentence("Promise 12", "Throws `IllegalArgumentException` if what is out of range");
        NewsReel x = made("shot 0;map 0 1;");
        Expect.throwsArgumentAround("piece 0", what -> x.piece(0, what), 0, 6);
        Expect.throwsArgumentAround("piece 1", what -> x.piece(1, what), 0, 6);
        Expect.sentence("Promise 12", "Throws `IndexOutOfBoundsException` if there is no such piece");
        Expect.throwsIndexAround("piece", i -> x.piece(i, 6), 2);
        Expect.edit(x, "shot 0;");
        Expect.throwsIndexAround("piece of a shorter reel", i -> x.piece(i, 0), 1);
        x.undo();
        Expect.throwsIndexAround("piece after undo", i -> x.piece(i, 0), 2);
    }

    private static void reelNumbers() {
        Expect.sentence("Promise 13",
                "0: pieces; 1: the END; 2: the frame in which the voice ends; 3: the END less that",
                "5: the frames of the longest piece (0); 6: all overlaps together",
                "Throws `IllegalArgumentException` if what is out of range");
        NewsReel x = made("");
        Expect.dueRow("reel", x::reel, 0, 0, 0, 0, 0, 0, 0);
        Expect.throwsArgumentAround("reel", x::reel, 0, 6);
        Expect.say(x, "a.");
        Expect.dueRow("reel with a voice alone", x::reel, 0, 0, 4, -4, 0, 0, 0);
        Expect.edit(x, "map 0 4;");
        Expect.dueRow("reel as long as the voice", x::reel, 1, 4, 4, 0, 0, 4, 0);
        Expect.edit(x, "map 0 1;mix 3{map 0 5;};");
        Expect.dueRow("reel longer than the voice", x::reel, 2, 6, 4, 2, 1, 5, 0);
        x.setVoice(20, 50);
        Expect.say(x, "a.".repeat(60));
        Expect.edit(x, "mix 40{repeat 6{repeat 5{map 0 400;map 1 400;};};};");
        Expect.dueRow("reel of the most", x::reel, 60, 24000 - 59 * 40, 4150, 24000 - 59 * 40 - 4150, 3, 400, 59 * 40);
    }

    private static void blocks() {
        Expect.sentence("Promise 13", "4: how many blocks (empty ones, too) are inside one another, at most");
        String[] reels = {"", "shot 0;", "mix 0{};", "repeat 1{};mix 1{};repeat 1{};", "repeat 1{mix 1{};};",
            "mix 1{};repeat 1{mix 1{repeat 1{};};};mix 1{mix 1{};};", "mix 1{mix 1{mix 1{mix 1{};};};};", "repeat 1{repeat 1{repeat 1{repeat 1{shot 0;};};};};shot 0;"};
        int[] due = {0, 0, 1, 1, 2, 3, 4, 4};
        for (int i = 0; i < reels.length; i++) {
            Expect.due("blocks of " + reels[i], made(reels[i]).reel(4), due[i]);
        }
    }

    private static void longestPiece() {
        Expect.sentence("Promise 13", "5: the frames of the longest piece (0); 6: all overlaps together");
        String[] reels = {"", "repeat 9{};", "map 0 1;", "map 0 400;map 0 1;", "map 0 1;map 0 400;", "map 0 1;map 0 7;map 0 6;", "mix 40{map 0 80;map 0 90;};"};
        int[] longest = {0, 0, 1, 400, 400, 7, 90};
        int[] overlaps = {0, 0, 0, 0, 0, 0, 40};
        for (int i = 0; i < reels.length; i++) {
            Expect.due("longest piece of " + reels[i], made(reels[i]).reel(5), longest[i]);
            Expect.due("all overlaps of " + reels[i], made(reels[i]).reel(6), overlaps[i]);
        }
    }

    private static void share() {
        Expect.sentence("Promise 20",
                "Returns the frames ahead of the END in which a piece of a shot of this camera is on the screen,",
                "divided by the END, both converted to double; 0.0 if the END is 0.");
        NewsReel empty = made("repeat 9{};");
        for (int camera = 0; camera <= 5; camera++) {
            Expect.dueReal("share without pieces", empty.share(camera), 0.0);
        }
        NewsReel alone = Expect.made("shot 5 400;shot 0 1;", "repeat 9{shot 0;};", "");
        Expect.dueReal("share of the only camera", alone.share(5), 1.0);
        Expect.dueReal("share of another camera", alone.share(0), 0.0);
        Expect.edit(alone, "shot 0;shot 1;shot 0;");
        Expect.dueReal("share of one frame", alone.share(0), 1.0 / 801.0);
        Expect.dueReal("share of the others", alone.share(5), 800.0 / 801.0);
        NewsReel mixed = Expect.made("shot 0 10;shot 1 10;map a;", "mix 40{shot 0;shot 1;map 0 11;shot 0;};", "");
        // They begin in 0, 5, 10 and 16; the last one ends in 26.
        Expect.dueReal("share of camera 0", mixed.share(0), 15.0 / 26.0);
        Expect.dueReal("share of camera 1", mixed.share(1), 5.0 / 26.0);
        NewsReel maps = made("map 0 1;map 1 400;");
        Expect.dueReal("share with maps alone", maps.share(0), 0.0);
        Expect.sentence("Promise 20", "Throws `IndexOutOfBoundsException` if camera is not 0 to 5");
        Expect.throwsIndexAround("share", camera -> (long) maps.share(camera), 6);
        Expect.throwsIndexAround("share without pieces", camera -> (long) empty.share(camera), 6);
    }

    private static void edit() {
        Expect.sentence("Promise 25", "Reads the text as a reel, which takes the place of the one that was there.", "Returns the number of its pieces");
        NewsReel x = made("");
        Expect.due("acts after an empty text", x.account(0), 2);
        Expect.due("acts to undo after an empty text", x.count(13), 2);
        Expect.due("edit of 60 pieces", Expect.edit(x, SIXTY), 60);
        Expect.due("edit of one piece", Expect.edit(x, "mix 3{shot 0;};"), 1);
        Expect.dueText("the reel of one piece", Expect.reelText(x), "mix 3{shot 0;};");
        Expect.due("edit of empty blocks", Expect.edit(x, "repeat 1{};mix 0{};"), 0);
        Expect.due("pieces of empty blocks", x.reel(0), 0);
        Expect.due("undo", x.undo(), 4);
        Expect.due("undo", x.undo(), 3);
        Expect.due("pieces after undo", x.reel(0), 60);
    }

    private static void tooManyPieces() {
        Expect.sentence("Promise 25", "2 it has more than 60 pieces (this is no error of the text: errorCode() is 0 then, and the reel stays)");
        String[] wrong = {"repeat 6{repeat 5{shot 0;shot 1;};};shot 0;", "repeat 9{repeat 7{shot 0;};};", "repeat 3{" + "shot 0;".repeat(21) + "};",
            "repeat 9{repeat 9{repeat 9{repeat 9{" + "shot 0;".repeat(26) + "};};};};", "mix 1{repeat 9{mix 1{repeat 9{shot 0;};};};};"};
        for (String text : wrong) {
            NewsReel x = Expect.made(Expect.LIBRARY, "shot 0;", "a.");
            x.writeReel();
            String state = Expect.state(x);
            Expect.due("edit of " + text, Expect.edit(x, text), -2);
            Expect.due("errorCode", x.errorCode(), 0);
            Expect.due("errorPosition", x.errorPosition(), -1);
            Expect.dueText("the state", Expect.state(x), state);
            Expect.dueText("the output", Expect.output(x), "shot 0;");
            Expect.dueRow("account", x::account, 2, 0, 1, 0, 0, 0, 0);
            Expect.due("acts to undo", x.count(13), 2);
            Expect.dueTextLength(text, x, 0);
        }
        Expect.reel("repeat 9{repeat 9{shot 0;};};#", -1, 1, 29);
    }

    private static void editWithAnError() {
        Expect.sentence("Promise 25", "or minus the reason: 1 the text has an error");
        String[] wrong = {"shot", "shot 2;", "shot 0;".repeat(31), "mix 1{mix 1{mix 1{mix 1{mix 1{};};};};};", "shot 1;map 0 401;", "}"};
        for (String text : wrong) {
            NewsReel x = Expect.made(Expect.LIBRARY, "mix 2{shot 0;map 0 9;};", "rome.");
            String state = Expect.state(x);
            Expect.due("edit of " + text, Expect.edit(x, text), -1);
            Expect.dueText("the state after " + text, Expect.state(x), state);
            Expect.dueRow("account", x::account, 2, 1, 0, 0, 0, 0, 0);
            Expect.due("acts to undo", x.count(13), 2);
            Expect.due("undo", x.undo(), 1);
        }
    }

    private static void writeReel() {
        Expect.sentence("Promise 35",
                "as a text that edit() would read: each item with a semicolon behind it;",
                "words and numbers with one space between; no other spaces (none ahead of a brace);",
                "\"from\" and \"to\" only of a cut that does not have the whole shot; numbers without zeros ahead");
        String[][] texts = {
            {"", ""},
            {" repeat 009 { } ; ", "repeat 9{};"},
            {"mix 00{};mix 9{};mix 10{};mix 40{};", "mix 0{};mix 9{};mix 10{};mix 40{};"},
            {"map 0 1;map 1 9;map 0 10;map 0 99;map 0 100;map 0 101;map 0 109;map 0 110;map 0 399;map 0 400;",
                "map 0 1;map 1 9;map 0 10;map 0 99;map 0 100;map 0 101;map 0 109;map 0 110;map 0 399;map 0 400;"},
            {"shot 0 from 0 to 29;shot 0 from 0 to 28;shot 0 from 1 to 29;shot 0 from 29 to 29;shot 0 from 0 to 0;",
                "shot 0;shot 0 from 0 to 28;shot 0 from 1 to 29;shot 0 from 29 to 29;shot 0 from 0 to 0;"},
            {"mix 1{repeat 2{mix 3{repeat 4{shot 0;map 0 1;};};shot 1;};};map 1 2;", "mix 1{repeat 2{mix 3{repeat 4{shot 0;map 0 1;};};shot 1;};};map 1 2;"},
            {"mix 1{mix 1{mix 1{mix 1{};};};};repeat 1{};", "mix 1{mix 1{mix 1{mix 1{};};};};repeat 1{};"}};
        for (String[] text : texts) {
            NewsReel x = made(text[0]);
            Expect.dueText("writeReel of " + text[0], Expect.reelText(x), text[1]);
            Expect.due("edit of what was written", Expect.edit(x, text[1]), x.reel(0));
        }
        NewsReel one = Expect.made("shot 0 1;shot 0 400;", "shot 0 from 0 to 0;shot 1 from 0 to 399;shot 1 from 399 to 399;", "");
        Expect.dueText("cuts of one frame", Expect.reelText(one), "shot 0;shot 1;shot 1 from 399 to 399;");
        NewsReel numbers = Expect.made("shot 0 9;".repeat(12), "shot 9;shot 10;shot 11 from 7 to 8;", "");
        Expect.dueText("shots of two digits", Expect.reelText(numbers), "shot 9;shot 10;shot 11 from 7 to 8;");
    }

    /** 26 cuts that are told in 19 bytes each, and four maps that are inserted: 30 items of the most bytes. */
    private static void longestOutput() {
        Expect.sentence("Promise 35", "Returns the number of bytes of the output.");
        String due = "map 5 400;".repeat(4) + "shot 11 from 100 to 100;".repeat(26);
        for (int from = 0; from < due.length(); from += 200) {
            NewsReel x = new NewsReel();
            Expect.load(x, "shot 0 400;".repeat(12) + "map a;map b;map c;map d;map e;map f;");
            Expect.due("edit of 26 cuts", Expect.edit(x, "shot11from100to100;".repeat(26)), 26);
            for (int i = 0; i < 4; i++) {
                Expect.due("insert", x.insert(0, 5, 400), 26 + (i + 1) * 400);
            }
            Expect.due("writeReel", x.writeReel(), 664);
            int to = Math.min(from + 200, due.length());
            Expect.dueText("the bytes from " + from, Expect.output(x, from, to), due.substring(from, to));
            Expect.due("output behind all", x.output(664), -1);
        }
    }

    private static void output() {
        Expect.sentence("Promise 37",
                "`index`: 0 for the first byte",
                "Returns this byte of the output; NONE if there is no such byte, or nothing was written.");
        int[] none = {Integer.MIN_VALUE, -2, -1, 7, 8, 999, 1000, 1001, Integer.MAX_VALUE};
        NewsReel x = Expect.made(Expect.LIBRARY, "shot 0;", "a b.");
        Expect.due("output(0) ahead of writing", x.output(0), -1);
        for (int index : none) {
            Expect.due("output of " + index + " ahead of writing", x.output(index), -1);
        }
        Expect.due("writeReel", x.writeReel(), 7);
        Expect.dueRow("output", x::output, 's', 'h', 'o', 't', ' ', '0', ';', -1);
        for (int index : none) {
            Expect.due("output of " + index, x.output(index), -1);
        }
        Expect.sentence("Promise 36", "the output, which is replaced");
        Expect.due("writeVoice", x.writeVoice(), 4);
        Expect.dueRow("output", x::output, 'a', ' ', 'b', '.', -1, -1, -1, -1);
        Expect.due("writeReel again", x.writeReel(), 7);
        Expect.dueRow("output", x::output, 's', 'h', 'o', 't', ' ', '0', ';', -1);
        Expect.edit(x, "");
        Expect.due("output(0) until it is written again", x.output(0), 's');
        Expect.due("writeReel of nothing", x.writeReel(), 0);
        Expect.dueRow("output", x::output, -1, -1);
    }
}
