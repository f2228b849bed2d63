/** Promises 1 to 6: a new object, the text buffer, load, the errors of the three kinds of texts. */
public final class TextsTest {
    public static void main(String[] args) {
        newObject();
        buffer();
        bytesInOrder();
        bytesBehindTheText();
        loadReplaces();
        loadKeeps();
        libraryErrors();
        reelErrors();
        voiceErrors();
        latestError();
        Expect.end("TextsTest");
    }

    private static void newObject() {
        NewsReel x = new NewsReel();
        int[] counts = {0, 0, 0, 0, 4, 10, 8, 0, 0, 0, 0, 0, 0, 0};
        for (int what = 0; what < counts.length; what++) {
            Expect.due("count " + what + " of a new object", x.count(what), counts[what]);
        }
        for (int what = 0; what < 7; what++) {
            Expect.due("reel " + what + " of a new object", x.reel(what), 0);
            Expect.due("account " + what + " of a new object", x.account(what), 0);
        }
        Expect.due("truncateText(0) of a new object", x.truncateText(0), 0);
        Expect.throwsArgument("truncateText(1) of a new object", () -> x.truncateText(1));
        Expect.throwsState("restore(0) of a new object", () -> x.restore(0));
        Expect.throwsState("restore(1) of a new object", () -> x.restore(1));
        Expect.due("NONE", NewsReel.NONE, -1);
    }

    private static void buffer() {
        NewsReel x = new NewsReel();
        for (int length = 4; length <= 500; length += 4) {
            Expect.due("appendText", x.appendText(0x20202020), length);
        }
        Expect.throwsState("appendText at 500 bytes", () -> x.appendText(0));
        Expect.throwsArgument("truncateText(501)", () -> x.truncateText(501));
        Expect.throwsArgument("truncateText(-1)", () -> x.truncateText(-1));
        Expect.due("truncateText(500)", x.truncateText(500), 500);
        Expect.due("truncateText(497)", x.truncateText(497), 497);
        Expect.throwsState("appendText at 497 bytes", () -> x.appendText(0));
        Expect.throwsArgument("truncateText(498) after the exception", () -> x.truncateText(498));
        Expect.due("truncateText(496)", x.truncateText(496), 496);
        Expect.due("appendText at 496 bytes", x.appendText(0x20202020), 500);
        Expect.due("load of 500 spaces", x.load(), 0);
        Expect.throwsArgument("truncateText(1) after load", () -> x.truncateText(1));
        Expect.throwsArgument("truncateText(MAX)", () -> x.truncateText(Integer.MAX_VALUE));
        Expect.throwsArgument("truncateText(MIN)", () -> x.truncateText(Integer.MIN_VALUE));
    }

    private static void bytesInOrder() {
        NewsReel x = new NewsReel();
        x.appendText('l' << 24 | 'e' << 16 | 'a' << 8 | 's');
        x.appendText('t' << 24 | '7' << 16 | ';' << 8 | 0xff);
        x.truncateText(7);
        Expect.due("load of least7;", x.load(), 0);
        Expect.due("LEAST", x.count(6), 7);
        x.appendText(0xe9202020);
        Expect.due("load of a byte above 127", x.load(), -1);
        Expect.due("its position", x.errorPosition(), 0);
    }

    /** What was cut off the text, or stood in a longer one, is not read. */
    private static void bytesBehindTheText() {
        NewsReel x = new NewsReel();
        Expect.type(x, "week 555;");
        x.truncateText(6);
        Expect.due("load of a cut number", x.load(), -1);
        Expect.due("its errorCode", x.errorCode(), 1);
        Expect.due("its errorPosition", x.errorPosition(), 6);
        Expect.type(x, "aaaa.");
        x.truncateText(2);
        Expect.due("say of a cut word", x.say(), -1);
        Expect.due("its errorPosition", x.errorPosition(), 2);
        Expect.type(x, "week 5;week 6;");
        x.truncateText(7);
        Expect.due("load of a cut library", x.load(), 0);
        Expect.due("WEEK", x.count(3), 5);
    }

    private static void loadReplaces() {
        NewsReel x = Expect.made("shot 3 50;map rome;ban 3 1 2;week 5;speed 6;pause 7;least 9;slack 11;",
                "shot 0;map 0 5;", "rome is old.");
        x.setWeek(9);
        Expect.due("acts that can be undone", x.count(13), 3);
        Expect.due("load", Expect.load(x, " shot\n1 40 ;shot 2 41; "), 2);
        int[] counts = {2, 0, 0, 0, 4, 10, 8, 0, 0, 0, 0, 0, 0, 0};
        for (int what = 0; what < counts.length; what++) {
            Expect.due("count " + what + " after load", x.count(what), counts[what]);
        }
        Expect.due("undo after load", x.undo(), -1);
        Expect.due("pieces after load", x.reel(0), 0);
        Expect.due("END after load", x.reel(1), 0);
        Expect.due("the voice's end after load", x.reel(2), 0);
        Expect.due("load of an empty text", Expect.load(x, ""), 0);
        Expect.due("shots after it", x.count(0), 0);
        Expect.due("its error", x.errorCode(), 0);
    }

    private static void loadKeeps() {
        NewsReel x = Expect.made("shot 3 50;", "shot 0;", "to do.");
        x.save(1);
        x.writeVoice();
        Expect.due("refused trim", x.trim(0, 50), -6);
        Expect.due("load with an error", Expect.load(x, "shot 3 50"), -1);
        Expect.due("shots after an error", x.count(0), 1);
        Expect.due("pieces after an error", x.reel(0), 1);
        Expect.due("words after an error", x.count(10), 2);
        Expect.due("acts to undo after an error", x.count(13), 2);
        Expect.throwsArgument("truncateText(1) after an error", () -> x.truncateText(1));
        Expect.due("load", Expect.load(x, "map a;"), 0);
        Expect.due("acts done after load", x.account(0), 2);
        Expect.due("refusals after load", x.account(6), 1);
        Expect.dueText("output after load", Expect.output(x), "to do.");
        x.restore(1);
        Expect.due("the saved shot", x.shot(0, 1), 50);
        Expect.due("the saved words", x.count(10), 2);
    }

    private static void libraryErrors() {
        Expect.library("shot0 1;shot 5 400;shot 0005 000000000000000000400;", 3);
        Expect.library("map shot;map map;map abcdefgh;ban 0 0 0;ban 5 99 99;week 0;speed 20;pause 50;least 50;slack 100;", 0);
        Expect.library("map z;map a;map az;map za;", 0);
        Expect.library("week 99;speed 1;pause 0;least 1;slack 0;", 0);
        Expect.library("shot 6 1;", -1, 2, 5);
        Expect.library("shot 0 0;", -1, 2, 7);
        Expect.library("shot 0 401;", -1, 2, 7);
        Expect.library("shot 0 99999999999999999999;", -1, 2, 7);
        Expect.library("shot 4294967296 5;", -1, 2, 5);
        Expect.library("shot 0 1", -1, 1, 8);
        Expect.library("shot 0 1 \n ", -1, 1, 11);
        Expect.library("shot 0;", -1, 1, 6);
        Expect.library("shot 0 1 2;", -1, 1, 9);
        Expect.library("shot a 1;", -1, 1, 5);
        Expect.library("shots 0 1;", -1, 1, 0);
        Expect.library("sho 0 1;", -1, 1, 0);
        Expect.library(" 5;", -1, 1, 1);
        Expect.library(";", -1, 1, 0);
        Expect.library("shot 0 1;;", -1, 1, 9);
        Expect.library("shot 0 1;.", -1, 1, 9);
        Expect.library("shot 0 1;\tmap a;", -1, 1, 9);
        Expect.library("shot 0 1;\rmap a;", -1, 1, 9);
        Expect.library("Shot 0 1;", -1, 1, 0);
        Expect.library("shot 0 -1;", -1, 1, 7);
        Expect.library("shot {0 1;", -1, 1, 5);
        Expect.library("map abcdefghi;", -1, 2, 4);
        Expect.library("map rome;map rom;map rome;", -1, 3, 21);
        Expect.library("map 5;", -1, 1, 4);
        Expect.library("map ;", -1, 1, 4);
        Expect.library("ban 6 1 2;", -1, 2, 4);
        Expect.library("ban 1 100 2;", -1, 2, 6);
        Expect.library("ban 1 5 4;", -1, 2, 8);
        Expect.library("ban 1 5 100;", -1, 2, 8);
        Expect.library("week 100;", -1, 2, 5);
        Expect.library("speed 0;", -1, 2, 6);
        Expect.library("speed 21;", -1, 2, 6);
        Expect.library("pause 51;", -1, 2, 6);
        Expect.library("least 0;", -1, 2, 6);
        Expect.library("least 51;", -1, 2, 6);
        Expect.library("slack 101;", -1, 2, 6);
        for (String word : new String[] {"week", "speed", "pause", "least", "slack"}) {
            Expect.library(word + " 5;map a;" + word + " 5;", -1, 3, word.length() + 9);
        }
        Expect.library("shot 1 1;".repeat(12) + "shot 1 1;", -1, 4, 108);
        Expect.library("shot 1 1;".repeat(12), 12);
        String maps = "map a;map b;map c;map d;map e;map f;";
        Expect.library(maps, 0);
        Expect.library(maps + "map f;", -1, 4, 36);
        Expect.library("ban 1 1 1;".repeat(10), 0);
        Expect.library("ban 1 1 1;".repeat(11), -1, 4, 100);
    }

    private static void reelError(String text, int code, int position) {
        NewsReel x = new NewsReel();
        Expect.load(x, Expect.LIBRARY);
        Expect.edit(x, "shot 1;");
        Expect.due("edit of " + text, Expect.edit(x, text), -1);
        Expect.due("errorCode of " + text, x.errorCode(), code);
        Expect.due("errorPosition of " + text, x.errorPosition(), position);
        Expect.due("items after " + text, x.count(8), 1);
        Expect.due("account(1) after " + text, x.account(1), 1);
        Expect.due("acts to undo after " + text, x.count(13), 1);
        Expect.throwsArgument("truncateText(1) after " + text, () -> x.truncateText(1));
    }

    private static void reelErrors() {
        Expect.reel("", 0);
        Expect.reel("shot1from0to19;shot 0 from 29 to 29;map 1 400;", 3);
        Expect.reel("repeat 1{};repeat 9{mix 0{};};mix 40{map 0 1;};", 1);
        Expect.reel("mix 1{mix 1{mix 1{mix 1{shot 0;};};};};", 1);
        reelError("shot 2;", 2, 5);
        reelError("map 2 5;", 2, 4);
        reelError("map 0 0;", 2, 6);
        reelError("map 0 401;", 2, 6);
        reelError("map 0;", 1, 5);
        reelError("shot 1 from 20 to 20;", 2, 12);
        reelError("shot 1 from 5 to 4;", 2, 17);
        reelError("shot 1 from 5 to 20;", 2, 17);
        reelError("shot 1 from 5;", 1, 13);
        reelError("shot 1 to 5;", 1, 7);
        reelError("shot 1 from 5 from 6;", 1, 14);
        reelError("repeat 0{};", 2, 7);
        reelError("repeat 10{};", 2, 7);
        reelError("mix 41{};", 2, 4);
        reelError("mix {};", 1, 4);
        reelError("mix 4;", 1, 5);
        reelError("mix 4{}", 1, 7);
        reelError("mix 4{", 1, 6);
        reelError("mix 4{shot 0};", 1, 12);
        reelError("mix 4{shot 0;;};", 1, 13);
        reelError("shot 0;};", 1, 7);
        reelError("shot 0;{};", 1, 7);
        reelError("cut 0;", 1, 0);
        reelError("from 0;", 1, 0);
        reelError("7;", 1, 0);
        reelError("shot 0;.", 1, 7);
        reelError("shot 0;mix 4{shot 0;#};", 1, 20);
        reelError("mix 1{mix 1{mix 1{mix 1{mix 1{};};};};};", 5, 29);
        reelError("mix 1{mix 1{mix 1{mix 1{mix 1 };};};};", 1, 30);
        Expect.reel("shot 0;".repeat(30), 30);
        reelError("shot 0;".repeat(30) + "shot 0;", 4, 210);
        reelError("mix 0{" + "shot 0;".repeat(30) + "};", 4, 209);
        reelError("shot 0;".repeat(29) + "mix 0{mix", 4, 209);
        reelError("shot 0;".repeat(30) + "shoot 0;", 1, 210);
    }

    private static void voiceError(String text, int code, int position) {
        NewsReel x = new NewsReel();
        Expect.say(x, "one.");
        Expect.due("say of " + text, Expect.say(x, text), -1);
        Expect.due("errorCode of " + text, x.errorCode(), code);
        Expect.due("errorPosition of " + text, x.errorPosition(), position);
        Expect.due("words after " + text, x.count(10), 1);
        Expect.due("account(1) after " + text, x.account(1), 1);
        Expect.throwsArgument("truncateText(1) after " + text, () -> x.truncateText(1));
    }

    private static void voiceErrors() {
        Expect.voice("", 0);
        Expect.voice(" \n ", 0);
        Expect.voice("a.b .c\n.", 3);
        Expect.voice("abcdefghijklmnopqrst.", 1);
        Expect.voice("uvwxyz a z az za.", 5);
        Expect.voice("a ".repeat(60) + ".", 60);
        voiceError("abcdefghijklmnopqrstu.", 2, 0);
        voiceError("a ".repeat(60) + "b.", 4, 120);
        voiceError("a ".repeat(60) + "abcdefghijklmnopqrstu.", 2, 120);
        voiceError("a ".repeat(60) + ".;", 1, 121);
        voiceError(".", 1, 0);
        voiceError("a..", 1, 2);
        voiceError("a", 1, 1);
        voiceError("a. b  ", 1, 6);
        voiceError("a 5.", 1, 2);
        voiceError("a;", 1, 1);
        voiceError("a{b}.", 1, 1);
        voiceError("a,b.", 1, 1);
        voiceError("A.", 1, 0);
    }

    private static void latestError() {
        NewsReel x = new NewsReel();
        Expect.due("errorCode without a call", x.errorCode(), 0);
        Expect.due("errorPosition without a call", x.errorPosition(), -1);
        Expect.load(x, "week 5");
        Expect.due("errorCode of load", x.errorCode(), 1);
        Expect.due("errorPosition of load", x.errorPosition(), 6);
        Expect.say(x, "a.");
        Expect.due("errorCode after say", x.errorCode(), 0);
        Expect.due("errorPosition after say", x.errorPosition(), -1);
        Expect.edit(x, "shot 0;");
        Expect.due("errorCode of edit", x.errorCode(), 2);
        Expect.due("errorPosition of edit", x.errorPosition(), 5);
        x.undo();
        Expect.due("errorCode after undo", x.errorCode(), 2);
        Expect.load(x, "map a;");
        Expect.edit(x, "repeat 9{repeat 9{map 0 1;};};");
        Expect.due("errorCode of too many pieces", x.errorCode(), 0);
        Expect.due("errorPosition of too many pieces", x.errorPosition(), -1);
    }
}
