/** Boundary cases of the term THE LEAST CUTTING and of promises 22 to 24 and 27, sentence by sentence. */
public final class ChoiceBoundsTest {
    /** With SPEED 20 it ends in frame 40. */
    private static final String FORTY = "a a.";

    public static void main(String[] args) {
        atLeastTheVoice();
        lastHasLeast();
        emptySet();
        notBanned();
        leastWaste();
        fewestShots();
        leastNumber();
        allShots();
        greatestWaste();
        bestExceptions();
        weeks();
        firstWeek();
        noWeek();
        speeds();
        speedsOfEqualGap();
        assemble();
        assembleInAWeek();
        assembleOne();
        assembleAll();
        assembleRefused();
        assembleReplaces();
        Expect.end("ChoiceBoundsTest");
    }

    private static void best(String library, String voice, int set, int waste, int size) {
        NewsReel x = Expect.made(library, "", voice);
        Expect.dueRow("best of " + library + " for " + voice, x::best, set, waste, size);
    }

    private static void noBest(String library, String voice) {
        best(library, voice, -1, -1, -1);
    }

    private static void atLeastTheVoice() {
        Expect.sentence("THE LEAST CUTTING", "whose LENGTHS together are at least the frame in which the voice ends");
        noBest("shot 0 39;least 1;speed 20;", FORTY);
        best("shot 0 40;least 1;speed 20;", FORTY, 1, 0, 1);
        best("shot 0 41;least 1;speed 20;", FORTY, 1, 1, 1);
        noBest("shot 0 20;shot 1 19;least 1;speed 20;", FORTY);
        best("shot 0 20;shot 1 20;least 1;speed 20;", FORTY, 3, 0, 2);
        best("shot 0 39;shot 1 1;least 1;speed 20;", FORTY, 3, 0, 2);
    }

    private static void lastHasLeast() {
        Expect.sentence("THE LEAST CUTTING", "of which the one with the greatest number, less what they have too much, has LEAST frames or more");
        best("shot 0 47;least 40;speed 20;", FORTY, 1, 7, 1);
        noBest("shot 0 47;least 41;speed 20;", FORTY);
        best("shot 0 35;shot 1 10;least 5;speed 20;", FORTY, 3, 5, 2);
        noBest("shot 0 35;shot 1 10;least 6;speed 20;", FORTY);
        best("shot 1 10;shot 0 35;least 30;speed 20;", FORTY, 3, 5, 2);
        noBest("shot 1 10;shot 0 35;least 31;speed 20;", FORTY);
        best("shot 0 39;shot 1 400;least 1;speed 20;", FORTY, 2, 360, 1);
        best("shot 0 39;shot 1 30;least 1;speed 20;", FORTY, 3, 29, 2);
        noBest("shot 0 39;shot 1 30;least 2;speed 20;", FORTY);
        noBest("shot 0 40;shot 0 40;least 41;speed 20;", FORTY);
        best("shot 0 9;least 8;speed 8;", "a.", 1, 1, 1);
        noBest("shot 0 9;speed 7;", "a.");
    }

    private static void emptySet() {
        Expect.sentence("THE LEAST CUTTING", "(The empty set is none.)");
        noBest("", "");
        noBest("shot 0 9;least 1;", "");
        noBest("", FORTY);
        NewsReel x = Expect.made("shot 0 9;least 1;", "", "");
        Expect.due("bestWeek without a voice", x.bestWeek(), -1);
        Expect.due("assemble without a voice", x.assemble(), -3);
    }

    private static void notBanned() {
        Expect.sentence("THE LEAST CUTTING", "A choice is a set of shots that are not banned");
        NewsReel x = Expect.made("shot 0 40;shot 1 20;shot 2 20;shot 1 45;ban 0 1 4;ban 1 2 3;ban 2 3 3;ban 1 5 5;ban 0 6 6;speed 20;", "", FORTY);
        int[][] due = {{1, 0, 1}, {6, 0, 2}, {-1, -1, -1}, {-1, -1, -1}, {6, 0, 2}, {1, 0, 1}, {6, 0, 2}, {1, 0, 1}};
        for (int week = 0; week < due.length; week++) {
            x.setWeek(week);
            Expect.dueRow("best in week " + week, x::best, due[week][0], due[week][1], due[week][2]);
        }
    }

    private static void leastWaste() {
        Expect.sentence("THE LEAST CUTTING", "The best choice is the one with the least waste");
        best("shot 0 42;shot 1 41;shot 2 43;speed 20;", FORTY, 2, 1, 1);
        best("shot 0 41;shot 1 10;shot 2 10;shot 3 10;shot 4 10;speed 20;", FORTY, 30, 0, 4);
        best("shot 0 42;shot 1 20;shot 2 21;speed 20;", FORTY, 6, 1, 2);
    }

    private static void fewestShots() {
        Expect.sentence("THE LEAST CUTTING", "of several the one with the fewest shots");
        best("shot 0 20;shot 1 20;shot 2 40;speed 20;", FORTY, 4, 0, 1);
        best("shot 0 10;shot 1 10;shot 2 20;shot 3 15;shot 4 25;speed 20;", FORTY, 24, 0, 2);
        best("shot 0 22;shot 1 21;shot 2 43;speed 20;", FORTY, 4, 3, 1);
    }

    private static void leastNumber() {
        Expect.sentence("THE LEAST CUTTING", "of several the one whose set is the least number");
        best("shot 0 40;shot 0 40;shot 0 40;speed 20;", FORTY, 1, 0, 1);
        best("shot 0 20;shot 0 20;shot 0 20;speed 20;", FORTY, 3, 0, 2);
        best("shot 0 10;shot 0 25;shot 0 15;shot 0 30;speed 20;", FORTY, 6, 0, 2);
        best("shot 0 9;shot 0 41;shot 0 41;speed 20;", FORTY, 2, 1, 1);
        Expect.sentence("THE LEAST CUTTING", "Sets are told as the sum of 2 to the power of the numbers of their members.");
        best("shot 0 1;".repeat(11) + "shot 0 40;speed 20;", FORTY, 2048, 0, 1);
        best("shot 0 20;" + "shot 0 1;".repeat(10) + "shot 0 20;speed 20;", FORTY, 2049, 0, 2);
    }

    /** 23 words of ten syllables in five sentences: 4600 frames and four pauses. */
    private static String longestVoice(int sentences) {
        String word = "abababababababababab";
        return (word + ".").repeat(sentences - 1) + (word + " ").repeat(23 - sentences) + word + ".";
    }

    private static void allShots() {
        Expect.sentence("THE LIBRARY", "There are 0 to 12 shots");
        best("shot 0 10;".repeat(12) + "speed 20;", "a a a a a a.", 4095, 0, 12);
        best("shot 0 11;".repeat(12) + "least 11;speed 20;", "a a a a a a.", -1, -1, -1);
        best("shot 0 400;".repeat(12) + "speed 20;pause 50;", longestVoice(5), 4095, 0, 12);
        noBest("shot 0 400;".repeat(12) + "speed 20;pause 50;", longestVoice(6));
        best("shot 0 400;".repeat(12) + "speed 20;pause 49;", longestVoice(5), 4095, 4, 12);
    }

    private static void greatestWaste() {
        Expect.sentence("THE LEAST CUTTING", "what they have too much is the waste");
        best("shot 0 400;least 1;speed 1;", "a.", 1, 399, 1);
        noBest("shot 0 400;least 2;speed 1;", "a.");
        best("shot 0 400;least 50;speed 10;", "a a a a a.", 1, 350, 1);
    }

    private static void bestExceptions() {
        Expect.sentence("Promise 22", "Throws `IllegalArgumentException` if what is out of range", "NONE if there is no choice");
        NewsReel none = new NewsReel();
        Expect.dueRow("best of none", none::best, -1, -1, -1);
        Expect.throwsArgumentAround("best of none", none::best, 0, 2);
        NewsReel one = Expect.made("shot 0 40;speed 20;", "", FORTY);
        Expect.throwsArgumentAround("best", one::best, 0, 2);
        Expect.sentence("Promise 22", "0: its set; 1: its waste; 2: how many shots it has");
        Expect.dueRow("best", one::best, 1, 0, 1);
    }

    private static void bestWeek(String library, int week, int due) {
        NewsReel x = Expect.made(library + "speed 20;week " + week + ";", "", FORTY);
        Expect.due("bestWeek from " + week + " of " + library, x.bestWeek(), due);
        Expect.due("WEEK after it", x.count(3), week);
        Expect.due("acts after it", x.count(13), 2);
    }

    private static void weeks() {
        Expect.sentence("Promise 23", "Returns the week from WEEK to 99 in which the best choice would have the least waste");
        bestWeek("shot 0 40;ban 0 0 98;", 0, 99);
        bestWeek("shot 0 40;ban 0 0 98;", 98, 99);
        bestWeek("shot 0 40;ban 0 0 98;", 99, 99);
        bestWeek("shot 0 40;ban 0 1 99;", 0, 0);
        bestWeek("shot 0 40;shot 1 41;ban 0 0 49;ban 0 51 99;", 0, 50);
        bestWeek("shot 0 40;shot 1 41;ban 0 0 49;ban 0 51 99;", 50, 50);
        bestWeek("shot 0 40;shot 1 41;ban 0 0 49;ban 0 51 99;", 51, 51);
        bestWeek("shot 0 40;shot 1 41;ban 0 0 98;", 0, 99);
        bestWeek("shot 0 41;shot 1 40;shot 2 42;ban 0 0 20;ban 1 0 40;ban 2 0 10;", 0, 41);
        bestWeek("shot 0 41;shot 1 40;shot 2 42;ban 0 0 20;ban 1 0 99;ban 2 0 10;", 0, 21);
    }

    private static void firstWeek() {
        Expect.sentence("Promise 23", "of several the first one");
        bestWeek("shot 0 40;", 0, 0);
        bestWeek("shot 0 40;", 99, 99);
        bestWeek("shot 0 40;", 7, 7);
        bestWeek("shot 0 40;ban 0 0 10;", 0, 11);
        bestWeek("shot 0 40;shot 1 40;ban 0 0 10;ban 1 11 20;", 3, 3);
        bestWeek("shot 0 40;shot 1 20;shot 2 20;ban 0 0 10;", 0, 0);
        bestWeek("shot 0 40;shot 1 41;ban 0 0 10;ban 0 20 30;", 15, 15);
        bestWeek("shot 0 40;shot 1 41;ban 0 0 10;ban 0 20 30;", 20, 31);
    }

    private static void noWeek() {
        Expect.sentence("Promise 23", "NONE if there is a choice in none of them");
        bestWeek("", 0, -1);
        bestWeek("shot 0 39;", 0, -1);
        bestWeek("shot 0 40;ban 0 0 99;", 0, -1);
        bestWeek("shot 0 40;ban 0 99 99;", 99, -1);
        bestWeek("shot 0 40;ban 0 99 99;", 98, 98);
        bestWeek("shot 0 40;ban 0 1 99;", 1, -1);
        Expect.due("bestWeek of a new object", new NewsReel().bestWeek(), -1);
    }

    private static void bestSpeed(String reel, String voice, int pause, int due) {
        NewsReel x = Expect.made("map a;speed 7;pause " + pause + ";", reel, voice);
        Expect.due("bestSpeed of " + reel + " and " + voice, x.bestSpeed(), due);
        Expect.due("SPEED after it", x.count(4), 7);
    }

    private static void speeds() {
        Expect.sentence("Promise 24", "Returns the SPEED (1 to 20) with which the END and the frame in which the voice ends would differ least");
        bestSpeed("", "b b.", 0, 1);
        bestSpeed("map 0 1;", "b b.", 0, 1);
        bestSpeed("map 0 2;", "b b.", 0, 1);
        bestSpeed("map 0 4;", "b b.", 0, 2);
        bestSpeed("map 0 38;", "b b.", 0, 19);
        bestSpeed("map 0 40;", "b b.", 0, 20);
        bestSpeed("map 0 400;", "b b.", 0, 20);
        bestSpeed("map 0 40;", "b. b.", 20, 10);
        bestSpeed("map 0 40;", "b. b.", 50, 1);
        bestSpeed("map 0 90;", "b. b.", 50, 20);
        bestSpeed("map 0 60;", "aba b. ab.", 0, 15);
        bestSpeed("map 0 13;", "b.", 50, 13);
        bestSpeed("map 0 30;", "aba.", 50, 15);
    }

    private static void speedsOfEqualGap() {
        Expect.sentence("Promise 24", "of several the least");
        bestSpeed("map 0 3;", "b b.", 0, 1);
        bestSpeed("map 0 5;", "b b.", 0, 2);
        bestSpeed("map 0 39;", "b b.", 0, 19);
        bestSpeed("map 0 6;", "b b b b.", 0, 1);
        bestSpeed("map 0 400;", "", 0, 1);
        bestSpeed("", "", 50, 1);
        Expect.due("bestSpeed of a new object", new NewsReel().bestSpeed(), 1);
    }

    private static void assemble() {
        Expect.sentence("Promise 27",
                "its shots as cuts by ascending numbers, all whole but the last one, whose end is cut by the waste",
                "Returns the waste");
        NewsReel x = Expect.made("shot 0 12;shot 1 90;shot 0 13;shot 2 20;speed 20;", "", FORTY);
        Expect.due("assemble", x.assemble(), 5);
        Expect.dueText("the reel", Expect.reelText(x), "shot 0;shot 2;shot 3 from 0 to 14;");
        Expect.dueRow("frames of piece", i -> x.piece(i, 3), 12, 13, 15);
        Expect.dueRow("FIRST of piece", i -> x.piece(i, 2), 0, 0, 0);
        Expect.due("the END less the voice's end", x.reel(3), 0);
        Expect.due("assemble again", x.assemble(), 5);
        Expect.dueRow("items", what -> x.count(8 + what), 3, 3);
        Expect.due("acts", x.account(0), 4);
        NewsReel exact = Expect.made("shot 0 25;shot 1 15;speed 20;", "", FORTY);
        Expect.due("assemble without waste", exact.assemble(), 0);
        Expect.dueText("the reel without waste", Expect.reelText(exact), "shot 0;shot 1;");
    }

    private static void assembleInAWeek() {
        Expect.sentence("Promise 27", "Makes the reel anew of the best choice");
        NewsReel x = Expect.made("shot 0 40;shot 1 41;ban 0 5 6;ban 1 6 6;slack 7;speed 20;", "", FORTY);
        int[] weeks = {4, 5, 6, 7};
        int[] due = {0, 1, -3, 0};
        for (int i = 0; i < weeks.length; i++) {
            x.setWeek(weeks[i]);
            Expect.due("assemble in week " + weeks[i], x.assemble(), due[i]);
            Expect.due("the shot of week " + weeks[i], x.piece(0, 1), new int[] {0, 1, 1, 0}[i]);
        }
    }

    private static void assembleOne() {
        Expect.sentence("Promise 27", "all whole but the last one");
        NewsReel whole = Expect.made("shot 0 40;speed 20;", "", FORTY);
        Expect.due("assemble of one shot", whole.assemble(), 0);
        Expect.dueText("the reel of one shot", Expect.reelText(whole), "shot 0;");
        NewsReel most = Expect.made("shot 0 400;least 1;speed 1;", "", "a.");
        Expect.due("assemble of the greatest waste", most.assemble(), 399);
        Expect.dueText("the reel of one frame", Expect.reelText(most), "shot 0 from 0 to 0;");
        NewsReel one = Expect.made("shot 0 1;least 1;speed 1;", "", "a.");
        Expect.due("assemble of a shot of one frame", one.assemble(), 0);
        Expect.dueText("the reel of it", Expect.reelText(one), "shot 0;");
    }

    private static void assembleAll() {
        Expect.sentence("THE LIBRARY", "There are 0 to 12 shots");
        NewsReel x = Expect.made("shot 0 10;".repeat(11) + "shot 0 400;speed 20;", "", "a ".repeat(25) + ".");
        Expect.due("assemble of twelve shots", x.assemble(), 0);
        Expect.dueRow("END and the voice's end", what -> x.reel(1 + what), 500, 500);
        Expect.dueRow("items", what -> x.count(8 + what), 11, 11);
        x.setVoice(20, 0);
        Expect.say(x, "a ".repeat(25) + "a.");
        Expect.due("no choice for 520 frames", x.assemble(), -3);
        x.setVoice(19, 0);
        Expect.due("assemble for 494 frames", x.assemble(), 6);
        Expect.dueText("the last one", Expect.reelText(x).substring(70), "shot 11 from 0 to 393;");
    }

    private static void assembleRefused() {
        Expect.sentence("Promise 27", "or minus the reason: 3 there is no choice");
        String[] libraries = {"", "shot 0 39;speed 20;", "shot 0 90;ban 0 0 0;speed 20;", "shot 0 90;least 41;speed 20;"};
        for (String library : libraries) {
            NewsReel x = Expect.made(library + "map a;", "mix 2{map 0 9;map 0 9;};", FORTY);
            String state = Expect.state(x);
            Expect.due("assemble of " + library, x.assemble(), -3);
            Expect.dueText("the state", Expect.state(x), state);
            Expect.dueRow("account", x::account, 2, 0, 0, 1, 0, 0, 0);
            Expect.due("acts to undo", x.count(13), 2);
        }
    }

    private static void assembleReplaces() {
        Expect.sentence("Promise 27", "Makes the reel anew of the best choice");
        NewsReel x = Expect.made("shot 0 40;map a;speed 20;", "repeat 1{" + "map 0 1;".repeat(29) + "};", FORTY);
        String state = Expect.state(x);
        Expect.due("assemble in place of 30 items", x.assemble(), 0);
        Expect.dueRow("items", what -> x.count(8 + what), 1, 1);
        Expect.due("pieces", x.reel(0), 1);
        Expect.due("blocks", x.reel(4), 0);
        Expect.due("undo", x.undo(), 2);
        Expect.dueText("the state after undo", Expect.state(x), state);
    }
}
