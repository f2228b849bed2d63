import java.math.BigInteger;

/** Boundary cases of the terms TEXTS and EXCEPTIONS, of the 512 calls and of promises 1 to 6, sentence by sentence. */
public final class TextsBoundsTest {
    private static final String[] WRONG_TOKENS = {"zzz", "1", ";", "{", "}", ".", "#"};

    public static void main(String[] args) {
        calls();
        newObject();
        fullBuffer();
        highestByteFirst();
        truncated();
        emptyAfterReading();
        letters();
        digits();
        wordsOfVoices();
        longestRuns();
        spacesAndLineFeeds();
        numbersOfLibraries();
        numbersOfReels();
        longestNumbers();
        tokensOfLibraries();
        tokensOfReels();
        tokensOfVoices();
        wordsOfStatements();
        wordsOfItems();
        errorPositions();
        firstWrongToken();
        standsAlready();
        tooMany();
        tooDeep();
        leastCode();
        latestCode();
        latestPosition();
        noErrorOfTheText();
        firstException();
        exceptionsAheadOfReasons();
        Expect.end("TextsBoundsTest");
    }

    private static void calls() {
        Expect.sentence("What it is", "An object is used for at most 512 calls after it has been made");
        NewsReel acts = new NewsReel();
        for (int call = 1; call <= 511; call++) {
            acts.setSlack(call % 101);
        }
        Expect.due("account(0) as the 512th call", acts.account(0), 511);
        NewsReel undone = new NewsReel();
        for (int call = 2; call <= 510; call += 2) {
            undone.setWeek(call % 100);
            undone.undo();
        }
        Expect.due("undo() as the 511th call", undone.undo(), -1);
        Expect.due("account(0) as the 512th call", undone.account(0), 255);
        NewsReel read = new NewsReel();
        for (int time = 1; time <= 170; time++) {
            read.appendText(0x612e0a20);
            Expect.due("truncateText", read.truncateText(2), 2);
            Expect.due("say of a.", read.say(), 1);
        }
        Expect.due("account(0) as the 511th call", read.account(0), 170);
        Expect.due("count(13) as the 512th call", read.count(13), 8);
    }

    private static void newObject() {
        Expect.sentence("Promise 1", "Creates a cutter with an empty library, an empty reel, an empty voice, an empty text buffer and no saved states.");
        NewsReel x = new NewsReel();
        Expect.dueRow("count", x::count, 0, 0, 0, 0, 4, 10, 8, 0, 0, 0, 0, 0, 0, 0);
        Expect.dueRow("reel", x::reel, 0, 0, 0, 0, 0, 0, 0);
        Expect.dueRow("account", x::account, 0, 0, 0, 0, 0, 0, 0);
        Expect.dueRow("faults", x::faults, 0, 0, 0, 0, 0, 0);
        Expect.dueRow("best", x::best, -1, -1, -1);
        Expect.dueRow("screen", x::screen, -1, -1);
        Expect.dueRow("spoken", x::spoken, -1, -1);
        Expect.due("bestWeek", x.bestWeek(), -1);
        Expect.due("bestSpeed", x.bestSpeed(), 1);
        Expect.due("fits", x.fits(), true);
        Expect.dueReal("share(0)", x.share(0), 0.0);
        Expect.dueReal("pace()", x.pace(), 0);
        Expect.due("undo()", x.undo(), -1);
        Expect.due("output(0)", x.output(0), -1);
        Expect.due("writeReel()", x.writeReel(), 0);
        Expect.due("writeVoice()", x.writeVoice(), 0);
        Expect.throwsState("restore(0)", () -> x.restore(0));
        Expect.throwsState("restore(1)", () -> x.restore(1));
        Expect.due("errorCode()", x.errorCode(), 0);
        Expect.due("errorPosition()", x.errorPosition(), -1);
        Expect.dueTextLength("a new object", x, 0);
        Expect.due("load() of the empty text", x.load(), 0);
        Expect.due("edit() of the empty text", new NewsReel().edit(), 0);
        Expect.due("say() of the empty text", new NewsReel().say(), 0);
        Expect.due("assemble() of a new object", new NewsReel().assemble(), -3);
    }

    /** A text that ends in the buffer's byte length - 1. */
    private static NewsReel filled(int length, String last) {
        NewsReel x = new NewsReel();
        Expect.type(x, " ".repeat(length - last.length()) + last);
        return x;
    }

    private static void fullBuffer() {
        Expect.sentence("Promise 2", "Returns the length of the text in bytes.", "Throws `IllegalStateException` if the text would be longer than 500 bytes");
        NewsReel empty = new NewsReel();
        for (int length = 4; length <= 500; length += 4) {
            Expect.due("appendText", empty.appendText(0x20202020), length);
        }
        Expect.due("appendText at 495 bytes", filled(495, "").appendText(0x20202020), 499);
        Expect.due("appendText at 496 bytes", filled(496, "").appendText(0x20202020), 500);
        for (int length = 497; length <= 500; length++) {
            NewsReel x = filled(length, "week 7;");
            Expect.throwsState("appendText at " + length + " bytes", () -> x.appendText(0x23232323));
            Expect.dueTextLength("a refused appendText", x, length);
            Expect.due("load of " + length + " bytes", x.load(), 0);
            Expect.due("WEEK of " + length + " bytes", x.count(3), 7);
        }
        Expect.sentence("TEXTS", "ASCII texts that are collected in a text buffer of at most 500 bytes");
        NewsReel reel = filled(500, "mix 7{};");
        Expect.due("edit of 500 bytes", reel.edit(), 0);
        Expect.due("its items", reel.count(8), 1);
        NewsReel voice = filled(500, "a b.");
        Expect.due("say of 500 bytes", voice.say(), 2);
    }

    private static void highestByteFirst() {
        Expect.sentence("Promise 2", "Appends four bytes to the text buffer, the highest byte of the parameter first.");
        NewsReel x = new NewsReel();
        Expect.due("appendText of week", x.appendText(0x7765656b), 4);
        Expect.due("appendText of 12;", x.appendText(0x31323b20), 8);
        Expect.due("load", x.load(), 0);
        Expect.due("WEEK", x.count(3), 12);
        int[] marked = {0xff202020, 0x20ff2020, 0x2020ff20, 0x202020ff, -1, Integer.MIN_VALUE, Integer.MAX_VALUE, 0};
        int[] wrong = {0, 1, 2, 3, 0, 0, 0, 0};
        for (int i = 0; i < marked.length; i++) {
            Expect.due("appendText of " + marked[i], x.appendText(marked[i]), 4);
            Expect.due("load of " + marked[i], x.load(), -1);
            Expect.due("errorCode of " + marked[i], x.errorCode(), 1);
            Expect.due("errorPosition of " + marked[i], x.errorPosition(), wrong[i]);
        }
    }

    private static void truncated() {
        Expect.sentence("Promise 3",
                "`length`: the new length, 0 to the present length",
                "Returns the new length.",
                "Throws `IllegalArgumentException` if length is out of range");
        for (int length : new int[] {0, 1, 3, 4, 7, 499, 500}) {
            NewsReel x = filled(length, "");
            Expect.throwsArgumentAround("truncateText at " + length + " bytes", x::truncateText, 0, length);
            Expect.due("truncateText to the present length", x.truncateText(length), length);
            Expect.due("truncateText(0)", x.truncateText(0), 0);
            Expect.throwsArgument("truncateText(1) of no bytes", () -> x.truncateText(1));
        }
        Expect.sentence("Promise 3", "Cuts the text to its first bytes.");
        NewsReel x = new NewsReel();
        Expect.type(x, "week 123");
        Expect.due("truncateText(6)", x.truncateText(6), 6);
        Expect.due("appendText behind the cut", x.appendText(0x343b2020), 10);
        Expect.due("load of week 14;", x.load(), 0);
        Expect.due("WEEK", x.count(3), 14);
        Expect.type(x, "week 12;week 13;");
        x.truncateText(8);
        Expect.due("load of the first bytes", x.load(), 0);
        Expect.due("WEEK of the first bytes", x.count(3), 12);
        Expect.type(x, "week 1234");
        x.truncateText(7);
        Expect.due("load of a number that is cut", x.load(), -1);
        Expect.due("its errorCode", x.errorCode(), 1);
        Expect.due("its errorPosition", x.errorPosition(), 7);
    }

    private static void emptyAfterReading() {
        Expect.sentence("Promise 4", "The text buffer is empty afterwards, also if there is an error.");
        NewsReel x = new NewsReel();
        Expect.due("load", Expect.load(x, "map a;"), 0);
        Expect.dueTextLength("load", x, 0);
        Expect.due("load with an error", Expect.load(x, "map a"), -1);
        Expect.dueTextLength("load with an error", x, 0);
        Expect.sentence("Promise 25", "The text buffer is empty afterwards, also if there is an error.");
        Expect.due("edit", Expect.edit(x, "map 0 1;"), 1);
        Expect.dueTextLength("edit", x, 0);
        Expect.due("edit with an error", Expect.edit(x, "map 0 1"), -1);
        Expect.dueTextLength("edit with an error", x, 0);
        Expect.due("edit of 81 pieces", Expect.edit(x, "repeat 9{repeat 9{map 0 1;};};"), -2);
        Expect.dueTextLength("edit of 81 pieces", x, 0);
        Expect.sentence("Promise 26", "The text buffer is empty afterwards, also if there is an error.");
        Expect.due("say", Expect.say(x, "a."), 1);
        Expect.dueTextLength("say", x, 0);
        Expect.due("say with an error", Expect.say(x, "a"), -1);
        Expect.dueTextLength("say with an error", x, 0);
        Expect.due("appendText after it", x.appendText(0), 4);
    }

    // ---- bytes and tokens

    private static boolean isLetter(int sign) {
        return sign >= 97 && sign <= 122;
    }

    private static boolean isDigit(int sign) {
        return sign >= 48 && sign <= 57;
    }

    private static boolean isGap(int sign) {
        return sign == 32 || sign == 10;
    }

    private static void letters() {
        Expect.sentence("TEXTS", "Tokens are words (maximal runs of the letters a to z)");
        for (int sign = 0; sign < 256; sign++) {
            boolean fine = isLetter(sign) || isGap(sign);
            int wrongAt = sign == ';' ? 6 : 5;
            NewsReel x = Expect.library("map a" + (char) sign + ";", fine ? 0 : -1, fine ? 0 : 1, fine ? -1 : wrongAt);
            Expect.due("maps with the byte " + sign, x.count(1), fine ? 1 : 0);
            if (fine) {
                Expect.due("letters with the byte " + sign, x.map(0, 0), isLetter(sign) ? 2 : 1);
            }
        }
    }

    private static void digits() {
        Expect.sentence("TEXTS", "numbers (maximal runs of the digits 0 to 9)");
        for (int sign = 0; sign < 256; sign++) {
            boolean fine = isDigit(sign) || isGap(sign);
            int wrongAt = sign == ';' ? 7 : 6;
            NewsReel x = Expect.library("week 1" + (char) sign + ";", fine ? 0 : -1, fine ? 0 : 1, fine ? -1 : wrongAt);
            Expect.due("WEEK with the byte " + sign, x.count(3), !fine ? 0 : isDigit(sign) ? 10 + sign - 48 : 1);
        }
    }

    private static void wordsOfVoices() {
        Expect.sentence("TEXTS", "1 if the token is not allowed there, if a byte belongs to no token");
        for (int sign = 0; sign < 256; sign++) {
            boolean fine = isLetter(sign) || isGap(sign) || sign == '.';
            int words = isLetter(sign) ? 1 : 2;
            NewsReel x = Expect.voice("a" + (char) sign + "b.", fine ? words : -1, fine ? 0 : 1, fine ? -1 : 1);
            Expect.due("words with the byte " + sign, x.count(10), fine ? words : 0);
            Expect.due("sentences with the byte " + sign, x.count(12), !fine ? 0 : sign == '.' ? 2 : 1);
        }
    }

    private static void longestRuns() {
        Expect.sentence("TEXTS", "semicolons, braces and full stops");
        Expect.library("weekweek 1;", -1, 1, 0);
        Expect.library("wee k 1;", -1, 1, 0);
        Expect.library("week1;", 0);
        Expect.library("week 1 2;", -1, 1, 7);
        Expect.library("shot 5 4 00;", -1, 1, 9);
        Expect.library("mapa;", -1, 1, 0);
        Expect.library("map a b;", -1, 1, 6);
        Expect.reel("shot 0 from1to 2;", 1);
        Expect.reel("shot 0 fromto 2;", -1, 1, 7);
        Expect.voice("abcdefghij klmnopqrstu.", 2);
        Expect.voice("abcdefghijklmnopqrstu.", -1, 2, 0);
    }

    private static void spacesAndLineFeeds() {
        Expect.sentence("TEXTS", "Spaces (byte 32) and line feeds (byte 10) may stand before, between and behind tokens.");
        String gap = "\n \n";
        Expect.library(String.join(gap, "", "shot", "5", "400", ";", "map", "a", ";", "ban", "5", "0", "99", ";", "week", "9", ";", ""), 1);
        Expect.library("shot5 400;map a;ban5 0 99;week9;speed9;pause9;least9;slack9;", 1);
        Expect.library(gap, 0);
        Expect.library("", 0);
        Expect.reel(String.join(gap, "", "mix", "4", "{", "shot", "0", "from", "1", "to", "2", ";", "}", ";", "map", "0", "3", ";", ""), 2);
        Expect.reel("mix4{shot0from1to2;};map0 3;repeat2{map1 1;};", 4);
        Expect.reel(gap, 0);
        Expect.reel("", 0);
        Expect.voice(String.join(gap, "", "a", "b", ".", "c", ".", ""), 3);
        Expect.voice("a b.c.", 3);
        Expect.voice(gap, 0);
        Expect.voice("", 0);
    }

    // ---- numbers

    private static final BigInteger FOUR_BYTES = BigInteger.ONE.shiftLeft(32);
    private static final BigInteger EIGHT_BYTES = BigInteger.ONE.shiftLeft(64);

    interface Reading {
        NewsReel read(String text, int answer, int code, int position);
    }

    /** A number that may be lowest to highest: those around, and those that an int or a long would wrap to them. */
    private static void number(Reading kind, int answer, String ahead, String behind, int lowest, int highest) {
        for (int number : new int[] {lowest, highest}) {
            kind.read(ahead + number + behind, answer, 0, -1);
            kind.read(ahead + "00000000000000000000" + number + behind, answer, 0, -1);
        }
        if (lowest > 0) {
            kind.read(ahead + (lowest - 1) + behind, -1, 2, ahead.length());
            kind.read(ahead + "000" + (lowest - 1) + behind, -1, 2, ahead.length());
        }
        kind.read(ahead + (highest + 1) + behind, -1, 2, ahead.length());
        kind.read(ahead + "000" + (highest + 1) + behind, -1, 2, ahead.length());
        BigInteger valid = BigInteger.valueOf(lowest);
        BigInteger[] wrapped = {FOUR_BYTES.add(valid), EIGHT_BYTES.add(valid), FOUR_BYTES.shiftRight(1), FOUR_BYTES.shiftRight(1).subtract(BigInteger.ONE),
            EIGHT_BYTES.shiftRight(1), EIGHT_BYTES.shiftRight(1).subtract(BigInteger.ONE), BigInteger.TEN.pow(200)};
        for (BigInteger number : wrapped) {
            kind.read(ahead + number + behind, -1, 2, ahead.length());
        }
    }

    private static void numbersOfLibraries() {
        Expect.sentence("TEXTS", "2 if a number is out of its range");
        number(Expect::library, 1, "shot ", " 1;", 0, 5);
        number(Expect::library, 1, "shot 0 ", ";", 1, 400);
        number(Expect::library, 0, "ban ", " 0 0;", 0, 5);
        number(Expect::library, 0, "ban 0 ", " 99;", 0, 99);
        number(Expect::library, 0, "ban 0 0 ", ";", 0, 99);
        number(Expect::library, 0, "ban 0 5 ", ";", 5, 99);
        number(Expect::library, 0, "ban 0 99 ", ";", 99, 99);
        number(Expect::library, 0, "week ", ";", 0, 99);
        number(Expect::library, 0, "speed ", ";", 1, 20);
        number(Expect::library, 0, "pause ", ";", 0, 50);
        number(Expect::library, 0, "least ", ";", 1, 50);
        number(Expect::library, 0, "slack ", ";", 0, 100);
    }

    private static void numbersOfReels() {
        Expect.sentence("TEXTS", "SHOT and MAP are numbers of those that there are.");
        number(Expect::reel, 1, "shot ", ";", 0, 1);
        number(Expect::reel, 1, "map ", " 1;", 0, 1);
        NewsReel none = new NewsReel();
        Expect.due("edit of shot 0; without shots", Expect.edit(none, "shot 0;"), -1);
        Expect.due("its errorCode", none.errorCode(), 2);
        Expect.due("its errorPosition", none.errorPosition(), 5);
        Expect.due("edit of map 0 1; without maps", Expect.edit(none, "map 0 1;"), -1);
        Expect.due("its errorCode", none.errorCode(), 2);
        Expect.due("its errorPosition", none.errorPosition(), 4);
        NewsReel full = new NewsReel();
        Expect.load(full, "shot 0 9;".repeat(12) + "map a;map b;map c;map d;map e;map f;");
        Expect.due("edit of the last shot and map", Expect.edit(full, "shot 11;map 5 1;"), 2);
        Expect.due("edit of shot 12;", Expect.edit(full, "shot 12;"), -1);
        Expect.due("its errorCode", full.errorCode(), 2);
        Expect.due("edit of map 6 1;", Expect.edit(full, "map 6 1;"), -1);
        Expect.due("its errorCode", full.errorCode(), 2);
        Expect.sentence("TEXTS", "LAST is at least FIRST.");
        number(Expect::reel, 1, "shot 1 from ", " to 19;", 0, 19);
        number(Expect::reel, 1, "shot 1 from 5 to ", ";", 5, 19);
        number(Expect::reel, 1, "shot 0 from 29 to ", ";", 29, 29);
        number(Expect::reel, 1, "shot 0 from 0 to ", ";", 0, 29);
        Expect.sentence("THE REEL",
                "a map that is held for some frames (1 to 400), a repetition of a row of items (1 to 9 TIMES),",
                "or a mix of a row of items with an OVERLAP (0 to 40)");
        number(Expect::reel, 1, "map 0 ", ";", 1, 400);
        number(Expect::reel, 0, "repeat ", "{};", 1, 9);
        number(Expect::reel, 0, "mix ", "{};", 0, 40);
    }

    private static void longestNumbers() {
        Expect.sentence("TEXTS", "Numbers may have any number of digits.");
        Expect.due("WEEK of 494 digits", Expect.library("week " + "0".repeat(492) + "99;", 0).count(3), 99);
        Expect.due("WEEK of zeros alone", Expect.library("week " + "0".repeat(494) + ";", 0).count(3), 0);
        Expect.library("week " + "0".repeat(491) + "100;", -1, 2, 5);
        Expect.library("week " + "9".repeat(494) + ";", -1, 2, 5);
        Expect.library("speed " + "0".repeat(493) + ";", -1, 2, 6);
        Expect.library("week 1" + "0".repeat(494), -1, 2, 5);
        Expect.due("frames of 493 digits", Expect.reel("map 0 " + "0".repeat(490) + "400;", 1).piece(0, 3), 400);
        Expect.reel("map 0 " + "0".repeat(490) + "401;", -1, 2, 6);
    }

    // ---- tokens that are not allowed, texts that end too early

    /** What a token is: a word, a number, or itself; a byte of no token is never allowed. */
    private static String kindOf(String token) {
        return token.equals("zzz") ? "W" : token.equals("1") ? "N" : token;
    }

    /** Puts each wrong token, and the end of the text (E), to each place; allowed tells what may be there. */
    private static void wrongTokens(Reading kind, String text, String... allowed) {
        String[] tokens = text.split(" ");
        StringBuilder ahead = new StringBuilder();
        for (int place = 0; place <= tokens.length; place++) {
            int at = ahead.length();
            if (!allowed[place].contains("E")) {
                kind.read(ahead.toString(), -1, 1, at);
                kind.read(ahead + " \n", -1, 1, at + 2);
            }
            for (String wrong : WRONG_TOKENS) {
                if (!allowed[place].contains(kindOf(wrong))) {
                    kind.read(ahead + wrong, -1, 1, at);
                    kind.read(ahead + wrong + " ; } .", -1, 1, at);
                }
            }
            if (place < tokens.length) {
                ahead.append(tokens[place]).append(' ');
            }
        }
    }

    private static void tokensOfLibraries() {
        Expect.sentence("TEXTS", "library   = { statement \";\" }", "statement = \"shot\" CAMERA LENGTH | \"map\" NAME | \"ban\" CAMERA FROM TO");
        wrongTokens(Expect::library, "shot 1 1 ;", "E", "N", "N", ";", "E");
        wrongTokens(Expect::library, "map a ;", "E", "W", ";", "E");
        wrongTokens(Expect::library, "ban 1 1 1 ;", "E", "N", "N", "N", ";", "E");
        for (String once : new String[] {"week", "speed", "pause", "least", "slack"}) {
            wrongTokens(Expect::library, once + " 1 ;", "E", "N", ";", "E");
        }
        for (String none : new String[] {"repeat", "mix", "from", "to", "weeks", "wee", "shots", "maps", "bans", "Week"}) {
            Expect.library(none + " 1 1;", -1, 1, 0);
        }
    }

    private static void tokensOfReels() {
        Expect.sentence("TEXTS",
                "reel      = { item \";\" }",
                "item      = \"shot\" SHOT [ \"from\" FIRST \"to\" LAST ]",
                "block     = \"{\" { item \";\" } \"}\"");
        wrongTokens(Expect::reel, "shot 1 from 1 to 1 ;", "E", "N", ";", "N", "", "N", ";", "E");
        wrongTokens(Expect::reel, "map 1 1 ;", "E", "N", "N", ";", "E");
        wrongTokens(Expect::reel, "repeat 1 { shot 1 ; map 1 1 ; } ;", "E", "N", "{", "}", "N", ";", "}", "N", "N", ";", "}", ";", "E");
        wrongTokens(Expect::reel, "mix 1 { mix 1 { } ; } ;", "E", "N", "{", "}", "N", "{", "}", ";", "}", ";", "E");
        for (String none : new String[] {"ban", "week", "from", "to", "shots", "maps", "repeats", "mi", "mixx"}) {
            Expect.reel(none + " 1 1;", -1, 1, 0);
        }
        Expect.reel("shot 0 from 1 from 2;", -1, 1, 14);
        Expect.reel("shot 0 to 2;", -1, 1, 7);
        Expect.reel("map 0 1 from 0 to 0;", -1, 1, 8);
    }

    private static void tokensOfVoices() {
        Expect.sentence("TEXTS", "voice     = { word { word } \".\" }");
        wrongTokens(Expect::voice, "a . b c .", "WE", "W.", "WE", "W.", "W.", "WE");
    }

    /** A word that differs by one letter, or is one letter shorter or longer, is not allowed in its place. */
    private static void wordsAlmost(Reading kind, String ahead, String word, String behind) {
        for (int i = 0; i < word.length(); i++) {
            kind.read(ahead + word.substring(0, i) + "q" + word.substring(i + 1) + behind, -1, 1, ahead.length());
        }
        kind.read(ahead + word.substring(1) + behind, -1, 1, ahead.length());
        kind.read(ahead + word.substring(0, word.length() - 1) + behind, -1, 1, ahead.length());
        kind.read(ahead + word + word.charAt(word.length() - 1) + behind, -1, 1, ahead.length());
    }

    private static void wordsOfStatements() {
        Expect.sentence("TEXTS", "\"week\" WEEK | \"speed\" SPEED | \"pause\" PAUSE | \"least\" LEAST | \"slack\" SLACK");
        wordsAlmost(Expect::library, "map a;", "shot", " 1 1;");
        wordsAlmost(Expect::library, "", "map", " a;");
        wordsAlmost(Expect::library, " ", "ban", " 1 1 1;");
        for (String word : new String[] {"week", "speed", "pause", "least", "slack"}) {
            wordsAlmost(Expect::library, "shot 0 1;", word, " 1;");
        }
    }

    private static void wordsOfItems() {
        Expect.sentence("TEXTS", "\"map\" MAP FRAMES | \"repeat\" TIMES block | \"mix\" OVERLAP block");
        wordsAlmost(Expect::reel, "", "shot", " 1;");
        wordsAlmost(Expect::reel, "shot 0 ", "from", " 1 to 2;");
        wordsAlmost(Expect::reel, "shot 0 from 1 ", "to", " 2;");
        wordsAlmost(Expect::reel, "mix 4{", "map", " 1 1;};");
        wordsAlmost(Expect::reel, "shot 0;", "repeat", " 1{};");
        wordsAlmost(Expect::reel, "shot 0;", "mix", " 1{};");
    }

    // ---- errors

    private static void errorPositions() {
        Expect.sentence("TEXTS", "The error position is the index of its first byte, or the length of the text if the text ends too early.");
        Expect.library("#", -1, 1, 0);
        Expect.library(" ".repeat(499) + "#", -1, 1, 499);
        Expect.library(" ".repeat(496) + "week", -1, 1, 500);
        Expect.library(" ".repeat(493) + "week 9 ", -1, 1, 500);
        Expect.library(" ".repeat(493) + "week100", -1, 2, 497);
        Expect.reel(" ".repeat(499) + ";", -1, 1, 499);
        Expect.reel(" ".repeat(494) + "mix 4{", -1, 1, 500);
        Expect.voice(" ".repeat(499) + ".", -1, 1, 499);
        Expect.voice(" ".repeat(499) + "a", -1, 1, 500);
        Expect.voice("a b\n\n\n", -1, 1, 6);
    }

    private static void firstWrongToken() {
        Expect.sentence("TEXTS", "the parser reads the tokens from the first one on and stops at the first token that is wrong");
        Expect.library("week 100;#", -1, 2, 5);
        Expect.library("week 1;week 100;", -1, 3, 7);
        Expect.library("shot 6 0", -1, 2, 5);
        Expect.library("map abcdefghi", -1, 2, 4);
        Expect.reel("shot 2 from", -1, 2, 5);
        Expect.reel("shot 0 from 30 to 29;", -1, 2, 12);
        Expect.reel("repeat 10{#", -1, 2, 7);
        Expect.voice("abcdefghijklmnopqrstu #", -1, 2, 0);
    }

    private static void standsAlready() {
        Expect.sentence("TEXTS", "\"week\", \"speed\", \"pause\", \"least\" and \"slack\" can stand once.");
        for (String once : new String[] {"week", "speed", "pause", "least", "slack"}) {
            int length = once.length();
            Expect.library(once + " 1;", 0);
            Expect.library(once + " 1;" + once + " 1;", -1, 3, length + 3);
            Expect.library(once + " 1;shot 0 1;" + once, -1, 3, length + 12);
            NewsReel x = new NewsReel();
            Expect.due("load", Expect.load(x, once + " 1;"), 0);
            Expect.due("the next load", Expect.load(x, once + " 2;"), 0);
            Expect.due("a load with an error", Expect.load(x, once + " 2"), -1);
            Expect.due("the load after it", Expect.load(x, once + " 3;"), 0);
        }
        Expect.library("week 1;speed 1;pause 1;least 1;slack 1;", 0);
        Expect.sentence("TEXTS", "and for a NAME that a map has");
        Expect.library("map a;map a;", -1, 3, 10);
        Expect.library("map abcdefgh;map abcdefgh;", -1, 3, 17);
        Expect.library("map a;map b;map c;map d;map e;map e;", -1, 3, 34);
        Expect.library("map a;map b;map c;map d;map e;map a;", -1, 3, 34);
        Expect.library("map ab;map a;map b;map abc;map ba;map bab;", 0);
        NewsReel x = Expect.library("map a;", 0);
        Expect.due("load of a NAME that a map had", Expect.load(x, "map a;"), 0);
    }

    private static void tooMany() {
        Expect.sentence("TEXTS",
                "4 for the first word of a 13th shot, of a 7th map, of an 11th ban, of a 31st item (those in blocks count, too),",
                "and for the 61st word of a voice");
        String shots = "shot 0 1;".repeat(12);
        String maps = "map a;map b;map c;map d;map e;map f;";
        String bans = "ban 0 0 0;".repeat(10);
        Expect.library(shots, 12);
        Expect.library(shots + "map a;shot 0 1;", -1, 4, 114);
        Expect.library(maps, 0);
        Expect.library(maps + "shot 0 1;map", -1, 4, 45);
        Expect.library(bans, 0);
        Expect.library(bans + "shot 0 1;ban 0 0 0;", -1, 4, 109);
        Expect.library(shots + maps + bans + "week 1;speed 1;pause 1;least 1;slack 1;", 12);
        String items = "shot 0;".repeat(29);
        Expect.reel(items + "shot 0;", 30);
        Expect.reel(items + "shot 0;map 0 1;", -1, 4, 210);
        Expect.reel(items + "mix 0{};", 29);
        Expect.reel(items + "mix 0{shot 0;};", -1, 4, 209);
        Expect.reel("repeat 2{" + items + "};", 58);
        Expect.reel("repeat 2{" + items + "repeat 1{};};", -1, 4, 212);
        Expect.reel("repeat 1{};".repeat(30), 0);
        Expect.reel("repeat 1{};".repeat(30) + "mix", -1, 4, 330);
        Expect.voice("a ".repeat(60) + ".", 60);
        Expect.voice("a ".repeat(60) + "a.", -1, 4, 120);
        Expect.voice("a.".repeat(60), 60);
        Expect.voice("a.".repeat(60) + "a.", -1, 4, 120);
    }

    private static void tooDeep() {
        Expect.sentence("TEXTS", "5 for a \"{\" inside four other blocks");
        Expect.reel("mix 1{repeat 2{mix 3{repeat 4{shot 0;};};};};", 8);
        Expect.reel("mix 1{repeat 2{mix 3{repeat 4{repeat 1{};};};};};", -1, 5, 38);
        Expect.reel("mix 1{repeat 2{mix 3{repeat 4{shot 0;mix 1{};};};};};", -1, 5, 42);
        Expect.reel("mix 1{mix 1{mix 1{mix 1{};mix 1{};};mix 1{mix 1{};};};};", 0);
        Expect.reel("mix 1{mix 1{mix 1{mix 1{};};};};mix 1{mix 1{mix 1{mix 1{mix 1 {", -1, 5, 62);
    }

    private static void leastCode() {
        Expect.sentence("TEXTS", "The error code, of several the least");
        Expect.voice("a ".repeat(60) + "abcdefghijklmnopqrst.", -1, 4, 120);
        Expect.voice("a ".repeat(60) + "abcdefghijklmnopqrstu.", -1, 2, 120);
        Expect.voice("a ".repeat(60) + "1", -1, 1, 120);
        Expect.reel("shot 0;".repeat(30) + "week", -1, 1, 210);
        Expect.reel("shot 0;".repeat(30) + "{", -1, 1, 210);
        Expect.reel("mix 1{mix 1{mix 1{mix 1{mix{", -1, 1, 27);
        Expect.reel("mix 1{mix 1{mix 1{mix 1{mix 41{", -1, 2, 28);
        Expect.reel("mix 1{mix 1{mix 1{mix 1{mix 1;", -1, 1, 29);
        Expect.reel("mix 1{mix 1{mix 1{mix 1{mix 1", -1, 1, 29);
        Expect.reel("mix 1{mix 1{mix 1{mix 1{" + "shot 0;".repeat(26) + "mix 1{", -1, 4, 206);
        Expect.reel("mix 1{mix 1{mix 1{mix 1{" + "shot 0;".repeat(25) + "mix 1{", -1, 5, 204);
        Expect.library("shot 0 1;".repeat(12) + "shots", -1, 1, 108);
        Expect.library("week 1;weeks", -1, 1, 7);
        Expect.library("map a;map b;map c;map d;map e;map f;map a;", -1, 4, 36);
    }

    private static void latestCode() {
        Expect.sentence("Promise 5",
                "Returns the error code of the latest load(), edit() or say(); 0 if its text had no error, or if there was no such call.");
        NewsReel x = Expect.library("week 100;", -1, 2, 5);
        dueError("load without an error", Expect.load(x, "map a;"), 0, x, 0, -1);
        dueError("edit with an error", Expect.edit(x, "map 1"), -1, x, 2, 4);
        dueError("edit without an error", Expect.edit(x, ""), 0, x, 0, -1);
        dueError("say with an error", Expect.say(x, "a "), -1, x, 1, 2);
        dueError("say without an error", Expect.say(x, ""), 0, x, 0, -1);
        dueError("load with an error", Expect.load(x, "map a;map a;"), -1, x, 3, 10);
        dueError("an act", x.insert(0, 0, 1), 1, x, 3, 10);
        dueError("a refused act", x.trim(0, 1), -6, x, 3, 10);
        dueError("undo", x.undo(), 2, x, 3, 10);
        x.save(0);
        x.restore(0);
        dueError("restore", 0, 0, x, 3, 10);
        dueError("a text that is not read", x.appendText(0), 4, x, 3, 10);
    }

    private static void latestPosition() {
        Expect.sentence("Promise 6",
                "Returns the error position of the latest load(), edit() or say(); NONE if its text had no error, or if there was no such call.");
        NewsReel none = new NewsReel();
        Expect.due("errorPosition() without a call", none.errorPosition(), NewsReel.NONE);
        none.assemble();
        none.setWeek(5);
        Expect.due("errorPosition() after acts that read no text", none.errorPosition(), NewsReel.NONE);
        NewsReel x = Expect.library("#", -1, 1, 0);
        dueError("load of the empty text", x.load(), 0, x, 0, -1);
        dueError("edit that ends too early", Expect.edit(x, "mix"), -1, x, 1, 3);
        dueError("say of a wrong first byte", Expect.say(x, "."), -1, x, 1, 0);
        dueError("say of the empty text", x.say(), 0, x, 0, -1);
        dueError("load that ends too early", Expect.load(x, " ".repeat(496) + "week"), -1, x, 1, 500);
        dueError("edit of the empty text", x.edit(), 0, x, 0, -1);
    }

    private static void noErrorOfTheText() {
        Expect.sentence("Promise 25", "this is no error of the text: errorCode() is 0 then, and the reel stays");
        NewsReel x = Expect.library("map a;map a;", -1, 3, 10);
        Expect.load(x, "map a;");
        Expect.edit(x, "map 0 7;");
        Expect.edit(x, "map 1 7;");
        dueError("edit of 81 pieces", Expect.edit(x, "repeat 9{repeat 9{map 0 1;};};"), -2, x, 0, -1);
        Expect.due("pieces after it", x.reel(0), 1);
    }

    private static void dueError(String call, int got, int answer, NewsReel x, int code, int position) {
        Expect.due(call, got, answer);
        Expect.due("errorCode() after " + call, x.errorCode(), code);
        Expect.due("errorPosition() after " + call, x.errorPosition(), position);
    }

    // ---- exceptions

    private static void firstException() {
        Expect.sentence("EXCEPTIONS", "If several exceptions apply, the one that comes first in the method's list of exceptions is thrown.");
        NewsReel x = Expect.made("shot 0 9;map a;ban 0 0 0;", "shot 0;repeat 1{};", "a.");
        for (int wrong : new int[] {Integer.MIN_VALUE, -1, 99, Integer.MAX_VALUE}) {
            Expect.throwsIndex("shot", () -> x.shot(wrong, wrong));
            Expect.throwsIndex("map", () -> x.map(wrong, wrong));
            Expect.throwsIndex("ban", () -> x.ban(wrong, wrong));
            Expect.throwsIndex("word", () -> x.word(wrong, wrong));
            Expect.throwsIndex("piece", () -> x.piece(wrong, wrong));
            Expect.throwsIndex("fault", () -> x.fault(wrong, wrong));
            Expect.throwsIndex("insert of a place", () -> x.insert(wrong, 0, 0));
            Expect.throwsIndex("insert of a map", () -> x.insert(0, wrong, 401));
            Expect.throwsIndex("insert of both", () -> x.insert(wrong, wrong, wrong));
            Expect.throwsIndex("trim", () -> x.trim(wrong, 0));
            Expect.throwsArgument("restore", () -> x.restore(wrong));
        }
        NewsReel empty = new NewsReel();
        Expect.throwsIndex("shot of a new object", () -> empty.shot(0, 9));
        Expect.throwsIndex("map of a new object", () -> empty.map(0, 9));
        Expect.throwsIndex("ban of a new object", () -> empty.ban(0, 9));
        Expect.throwsIndex("word of a new object", () -> empty.word(0, 9));
        Expect.throwsIndex("piece of a new object", () -> empty.piece(0, 9));
        Expect.throwsIndex("fault of a new object", () -> empty.fault(0, 9));
        Expect.throwsIndex("insert of a new object", () -> empty.insert(0, 0, 0));
        Expect.throwsIndex("trim of a new object", () -> empty.trim(0, 0));
        Expect.throwsArgument("restore(2) of a new object", () -> empty.restore(2));
    }

    private static void exceptionsAheadOfReasons() {
        Expect.sentence("EXCEPTIONS", "Exceptions come ahead of reasons.");
        NewsReel full = Expect.made(Expect.LIBRARY, "repeat 2{" + "shot 0;".repeat(29) + "};", "");
        Expect.throwsArgument("insert into 30 items", () -> full.insert(0, 0, 401));
        Expect.throwsIndex("insert into 30 items", () -> full.insert(2, 0, 1));
        Expect.throwsIndex("insert into 30 items", () -> full.insert(0, 2, 1));
        NewsReel pieces = Expect.made(Expect.LIBRARY, "repeat 6{repeat 5{shot 0;shot 1;};};", "");
        Expect.throwsArgument("insert into 60 pieces", () -> pieces.insert(0, 0, 0));
        Expect.throwsIndex("insert into 60 pieces", () -> pieces.insert(0, -1, 1));
        Expect.throwsArgument("trim of a repetition", () -> pieces.trim(0, 0));
        Expect.throwsArgument("trim of a repetition", () -> pieces.trim(0, 400));
        Expect.throwsIndex("trim behind a repetition", () -> pieces.trim(1, 1));
        NewsReel shortCut = Expect.made(Expect.LIBRARY, "shot 0 from 3 to 3;", "");
        Expect.throwsArgument("trim of one frame", () -> shortCut.trim(0, 400));
        for (NewsReel x : new NewsReel[] {full, pieces, shortCut}) {
            Expect.dueRow("account", x::account, 2, 0, 0, 0, 0, 0, 0);
        }
    }
}
