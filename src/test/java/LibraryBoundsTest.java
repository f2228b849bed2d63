/** Boundary cases of the term THE LIBRARY and of promises 4, 7 to 10, 32 and 34, sentence by sentence. */
public final class LibraryBoundsTest {
    private static final String TWELVE_SHOTS = "shot 0 1;shot 5 400;" + "shot 2 50;".repeat(9) + "shot 0 399;";
    private static final String SIX_MAPS = "map a;map abcdefgh;map z;map zzzzzzzz;map za;map az;";
    private static final String TEN_BANS = "ban 0 0 0;ban 5 99 99;" + "ban 2 10 20;".repeat(7) + "ban 1 0 99;";

    public static void main(String[] args) {
        shots();
        maps();
        names();
        bans();
        bannedShots();
        settings();
        atFirst();
        countsOfNothing();
        countsOfMost();
        countsOfItems();
        countExceptions();
        shotNumbers();
        mapNumbers();
        banNumbers();
        loadReplaces();
        loadWithAnError();
        loadKeepsSavedStates();
        setWeek();
        setSlack();
        Expect.end("LibraryBoundsTest");
    }

    private static void shots() {
        Expect.sentence("THE LIBRARY", "There are 0 to 12 shots, numbered from 0");
        NewsReel none = Expect.library("", 0);
        Expect.due("shots", none.count(0), 0);
        Expect.throwsIndexAround("a shot of none", i -> none.shot(i, 0), 0);
        NewsReel one = Expect.library("shot 3 9;", 1);
        Expect.due("the only shot", one.shot(0, 0), 3);
        Expect.throwsIndexAround("a shot of one", i -> one.shot(i, 0), 1);
        NewsReel all = Expect.library(TWELVE_SHOTS, 12);
        Expect.due("shots", all.count(0), 12);
        Expect.throwsIndexAround("a shot of twelve", i -> all.shot(i, 0), 12);
        Expect.library(TWELVE_SHOTS + "shot 0 1;", -1, 4, TWELVE_SHOTS.length());
        Expect.sentence("THE LIBRARY", "each has a CAMERA (0 to 5) and a LENGTH in frames (1 to 400)");
        Expect.dueRow("CAMERA of shot", i -> all.shot(i, 0), 0, 5, 2, 2, 2, 2, 2, 2, 2, 2, 2, 0);
        Expect.dueRow("LENGTH of shot", i -> all.shot(i, 1), 1, 400, 50, 50, 50, 50, 50, 50, 50, 50, 50, 399);
        Expect.library("shot 6 1;", -1, 2, 5);
        Expect.library("shot 0 0;", -1, 2, 7);
        Expect.library("shot 0 401;", -1, 2, 7);
    }

    private static void maps() {
        Expect.sentence("THE LIBRARY", "There are 0 to 6 maps, numbered from 0");
        NewsReel none = Expect.library("shot 0 1;", 1);
        Expect.due("maps", none.count(1), 0);
        Expect.throwsIndexAround("a map of none", i -> none.map(i, 0), 0);
        NewsReel all = Expect.library(SIX_MAPS, 0);
        Expect.due("maps", all.count(1), 6);
        Expect.dueRow("letters of map", i -> all.map(i, 0), 1, 8, 1, 8, 2, 2);
        Expect.throwsIndexAround("a map of six", i -> all.map(i, 0), 6);
        Expect.library(SIX_MAPS + "map b;", -1, 4, SIX_MAPS.length());
    }

    private static void names() {
        Expect.sentence("THE LIBRARY", "each has a NAME (1 to 8 letters a to z; no two alike)");
        Expect.library("map ;", -1, 1, 4);
        Expect.library("map abcdefghi;", -1, 2, 4);
        Expect.library("map " + "a".repeat(496), -1, 2, 4);
        Expect.library("map aaaaaaaa;map aaaaaaab;map baaaaaaa;", 0);
        Expect.library("map aaaaaaaa;map aaaaaaa;map aaaaaaaa;", -1, 3, 29);
        Expect.library("map b;map a;map b;", -1, 3, 16);
        NewsReel x = Expect.library("map abcdefgh;map abcdefg;map bcdefgh;map h;map a;", 0);
        Expect.say(x, "abcdefgh abcdefg bcdefgh h a abcdefghi ab i.");
        Expect.dueRow("the map of word", i -> x.word(i, 4), 0, 1, 2, 3, 4, -1, -1, -1);
    }

    private static void bans() {
        Expect.sentence("THE LIBRARY", "There are 0 to 10 bans, numbered from 0; each has a CAMERA and weeks FROM to TO (0 to 99, FROM at most TO).");
        NewsReel none = Expect.library("shot 0 1;", 1);
        Expect.due("bans", none.count(2), 0);
        Expect.throwsIndexAround("a ban of none", i -> none.ban(i, 0), 0);
        NewsReel all = Expect.library(TEN_BANS, 0);
        Expect.due("bans", all.count(2), 10);
        Expect.dueRow("CAMERA of ban", i -> all.ban(i, 0), 0, 5, 2, 2, 2, 2, 2, 2, 2, 1);
        Expect.dueRow("FROM of ban", i -> all.ban(i, 1), 0, 99, 10, 10, 10, 10, 10, 10, 10, 0);
        Expect.dueRow("TO of ban", i -> all.ban(i, 2), 0, 99, 20, 20, 20, 20, 20, 20, 20, 99);
        Expect.throwsIndexAround("a ban of ten", i -> all.ban(i, 0), 10);
        Expect.library(TEN_BANS + "ban 0 0 0;", -1, 4, TEN_BANS.length());
        Expect.library("ban 6 0 0;", -1, 2, 4);
        Expect.library("ban 0 100 100;", -1, 2, 6);
        Expect.library("ban 0 0 100;", -1, 2, 8);
        Expect.library("ban 0 7 6;", -1, 2, 8);
        Expect.library("ban 0 7 7;", 0);
        Expect.library("ban 0 1 0;", -1, 2, 8);
        Expect.library("map a;shot 0 1;ban 0 7 6;", -1, 2, 23);
        Expect.library("ban 0 7 9;ban 0 5 5;ban 0 9 8;", -1, 2, 28);
        Expect.library("ban 0 7 9;ban 0 5 5;ban 0 8 8;", 0);
    }

    private static void bannedShots() {
        Expect.sentence("THE LIBRARY", "A shot is banned if a ban has its CAMERA and the present WEEK (0 to 99; 0 at first) is one of its weeks.");
        NewsReel x = Expect.library("shot 0 9;shot 5 9;shot 3 9;ban 0 0 0;ban 5 99 99;ban 0 20 30;ban 0 31 32;ban 5 25 25;ban 1 0 99;", 3);
        int[] weeks = {0, 1, 19, 20, 24, 25, 26, 30, 31, 32, 33, 98, 99};
        int[] first = {1, 0, 0, 1, 1, 1, 1, 1, 1, 1, 0, 0, 0};
        int[] second = {0, 0, 0, 0, 0, 1, 0, 0, 0, 0, 0, 0, 1};
        Expect.due("WEEK at first", x.count(3), 0);
        for (int i = 0; i < weeks.length; i++) {
            if (i > 0) {
                Expect.due("setWeek of " + weeks[i], x.setWeek(weeks[i]), first[i] + second[i]);
            }
            Expect.due("shot 0 is banned in week " + weeks[i], x.shot(0, 2), first[i]);
            Expect.due("shot 1 is banned in week " + weeks[i], x.shot(1, 2), second[i]);
            Expect.due("shot 2 is banned in week " + weeks[i], x.shot(2, 2), 0);
        }
        Expect.due("shots banned without bans", Expect.library("shot 0 9;", 1).setWeek(0), 0);
        NewsReel always = Expect.library("shot 0 9;".repeat(12) + "ban 0 0 99;", 12);
        Expect.due("shots banned in week 0", always.setWeek(0), 12);
        Expect.due("shots banned in week 99", always.setWeek(99), 12);
    }

    private static void settings() {
        Expect.sentence("THE LIBRARY",
                "SPEED (1 to 20; 4 at first), PAUSE (0 to 50; 10 at first), LEAST (1 to 50; 8 at first) and SLACK (0 to 100; 0 at first)");
        setting(3, "week", 0, 99);
        setting(4, "speed", 1, 20);
        setting(5, "pause", 0, 50);
        setting(6, "least", 1, 50);
        setting(7, "slack", 0, 100);
    }

    private static void setting(int what, String name, int lowest, int highest) {
        Expect.due("lowest " + name, Expect.library(name + " " + lowest + ";", 0).count(what), lowest);
        Expect.due("highest " + name, Expect.library(name + " " + highest + ";", 0).count(what), highest);
        Expect.library(name + " " + (highest + 1) + ";", -1, 2, 6 - (name.equals("week") ? 1 : 0));
        if (lowest > 0) {
            Expect.library(name + " " + (lowest - 1) + ";", -1, 2, 6);
        }
    }

    private static void atFirst() {
        Expect.sentence("Promise 4", "what the text does not tell is as at first");
        int[] first = {0, 4, 10, 8, 0};
        String[] names = {"week", "speed", "pause", "least", "slack"};
        for (int told = 0; told < 5; told++) {
            NewsReel x = Expect.library("week 2;speed 2;pause 2;least 2;slack 2;", 0);
            Expect.due("load of one number", Expect.load(x, names[told] + " 9;"), 0);
            for (int i = 0; i < 5; i++) {
                Expect.due(names[i] + " after " + names[told], x.count(3 + i), i == told ? 9 : first[i]);
            }
        }
    }

    private static void countsOfNothing() {
        Expect.sentence("Promise 7",
                "0: shots; 1: maps; 2: bans; 3: WEEK; 4: SPEED; 5: PAUSE; 6: LEAST; 7: SLACK",
                "10: words; 11: syllables of all words; 12: sentences; 13: acts that can be undone");
        NewsReel x = Expect.library("week 0;speed 1;pause 0;least 1;slack 0;", 0);
        Expect.dueRow("count", x::count, 0, 0, 0, 0, 1, 0, 1, 0, 0, 0, 0, 0, 0, 0);
    }

    private static void countsOfMost() {
        NewsReel x = new NewsReel();
        Expect.load(x, "shot 0 9;".repeat(12) + SIX_MAPS + "ban 0 0 0;".repeat(10) + "week 99;speed 20;pause 50;least 50;slack 100;");
        Expect.edit(x, "map 0 1;".repeat(30));
        Expect.say(x, "a.".repeat(60));
        Expect.dueRow("count", x::count, 12, 6, 10, 99, 20, 50, 50, 100, 30, 30, 60, 60, 60, 2);
        for (int acts = 3; acts <= 10; acts++) {
            x.setWeek(acts);
            Expect.due("acts that can be undone", x.count(13), Math.min(acts, 8));
        }
        Expect.say(x, "abababababababababab.");
        Expect.due("syllables of the longest word", x.count(11), 10);
    }

    private static void countsOfItems() {
        Expect.sentence("Promise 7",
                "8: items of the reel (not those in blocks); 9: all items (also those in blocks, each once, however often it is repeated)");
        items("", 0, 0);
        items("shot 0;", 1, 1);
        items("repeat 9{};", 1, 1);
        items("repeat 9{shot 0;map 0 1;};", 1, 3);
        items("mix 0{repeat 3{mix 0{repeat 1{shot 0;};shot 1;};};};shot 0;", 2, 7);
        items("repeat 2{" + "shot 0;".repeat(29) + "};", 1, 30);
        items("shot 0;".repeat(30), 30, 30);
    }

    private static void items(String reel, int tops, int all) {
        NewsReel x = Expect.made(Expect.LIBRARY, reel, "");
        Expect.due("items of " + reel, x.count(8), tops);
        Expect.due("all items of " + reel, x.count(9), all);
    }

    private static void countExceptions() {
        Expect.sentence("Promise 7", "Throws `IllegalArgumentException` if what is out of range");
        NewsReel x = new NewsReel();
        Expect.throwsArgumentAround("count", x::count, 0, 13);
    }

    private static void shotNumbers() {
        Expect.sentence("Promise 8",
                "0: its CAMERA; 1: its LENGTH; 2: 1 if it is banned, else 0; 3: its pieces; 4: the frames of these together",
                "Throws `IndexOutOfBoundsException` if there is no such shot");
        NewsReel x = Expect.made("shot 5 400;shot 0 1;shot 2 7;map a;ban 5 0 0;", "repeat 6{repeat 9{shot 0;};};"
                + "repeat 5{shot 1;};map 0 400;", "");
        Expect.dueRow("shot 0", what -> x.shot(0, what), 5, 400, 1, 54, 54 * 400);
        Expect.dueRow("shot 1", what -> x.shot(1, what), 0, 1, 0, 5, 5);
        Expect.dueRow("shot 2 without pieces", what -> x.shot(2, what), 2, 7, 0, 0, 0);
        Expect.edit(x, "repeat 6{repeat 5{shot 0;shot 0 from 399 to 399;};};");
        Expect.dueRow("shot 0 of all pieces", what -> x.shot(0, what), 5, 400, 1, 60, 30 * 401);
        Expect.sentence("Promise 8", "Throws `IllegalArgumentException` if what is out of range");
        for (int shot = 0; shot < 3; shot++) {
            int it = shot;
            Expect.throwsArgumentAround("shot " + it, what -> x.shot(it, what), 0, 4);
        }
    }

    private static void mapNumbers() {
        Expect.sentence("Promise 9",
                "0: the letters of its NAME; 1: words that are its NAME; 2: its pieces; 3: of its words those that are no fault",
                "Throws `IndexOutOfBoundsException` if there is no such map");
        NewsReel x = Expect.made("map a;map bb;map abcdefgh;speed 1;pause 0;", "repeat 6{repeat 5{map 0 1;map 0 1;};};", "a ".repeat(60) + ".");
        Expect.dueRow("map 0", what -> x.map(0, what), 1, 60, 60, 60);
        Expect.dueRow("map 1 without words and pieces", what -> x.map(1, what), 2, 0, 0, 0);
        x.setVoice(2, 0);
        Expect.due("words that are no fault at half the speed", x.map(0, 3), 30);
        Expect.edit(x, "");
        Expect.dueRow("map 0 without pieces", what -> x.map(0, what), 1, 60, 0, 0);
        Expect.edit(x, "map 2 400;");
        Expect.say(x, "abcdefgh bb abcdefghi abcdefg.");
        Expect.dueRow("map 2", what -> x.map(2, what), 8, 1, 1, 1);
        Expect.dueRow("map 1", what -> x.map(1, what), 2, 1, 0, 0);
        Expect.dueRow("map 0", what -> x.map(0, what), 1, 0, 0, 0);
        Expect.sentence("Promise 9", "Throws `IllegalArgumentException` if what is out of range");
        Expect.throwsArgumentAround("map 0", what -> x.map(0, what), 0, 3);
        Expect.throwsArgumentAround("map 2", what -> x.map(2, what), 0, 3);
    }

    private static void banNumbers() {
        Expect.sentence("Promise 10",
                "0: its CAMERA; 1: FROM; 2: TO; 3: how many shots have its CAMERA",
                "Throws `IndexOutOfBoundsException` if there is no such ban");
        NewsReel x = Expect.library("shot 0 1;".repeat(12) + "ban 0 0 0;ban 5 99 99;ban 1 0 99;", 12);
        Expect.dueRow("ban 0", what -> x.ban(0, what), 0, 0, 0, 12);
        Expect.dueRow("ban 1", what -> x.ban(1, what), 5, 99, 99, 0);
        Expect.dueRow("ban 2", what -> x.ban(2, what), 1, 0, 99, 0);
        NewsReel mixed = Expect.library("shot 5 1;shot 0 1;shot 2 1;shot 5 1;shot 1 1;shot 5 1;"
                + "ban 0 1 1;ban 1 1 1;ban 2 1 1;ban 3 1 1;ban 4 1 1;ban 5 1 1;", 6);
        Expect.dueRow("shots with the CAMERA of ban", i -> mixed.ban(i, 3), 1, 1, 1, 0, 0, 3);
        Expect.sentence("Promise 10", "Throws `IllegalArgumentException` if what is out of range");
        Expect.throwsArgumentAround("ban 0", what -> x.ban(0, what), 0, 3);
        Expect.throwsArgumentAround("ban 2", what -> x.ban(2, what), 0, 3);
    }

    private static void loadReplaces() {
        Expect.sentence("Promise 4", "it replaces everything that acts can change, with an empty reel and an empty voice", "no act can be undone then");
        NewsReel x = Expect.made("shot 0 9;map a;ban 0 0 0;week 9;", "repeat 2{shot 0;map 0 3;};", "a b.");
        x.setWeek(5);
        x.setVoice(7, 7);
        x.setSlack(7);
        x.trim(0, 1);
        x.writeVoice();
        Expect.due("load of an empty text", Expect.load(x, ""), 0);
        Expect.dueText("the state", Expect.state(x), Expect.state(new NewsReel()));
        Expect.due("acts that can be undone", x.count(13), 0);
        Expect.due("undo", x.undo(), -1);
        Expect.dueText("the state after undo", Expect.state(x), Expect.state(new NewsReel()));
        Expect.sentence("Promise 4", "Accounts and saved states stay.");
        Expect.dueRow("account", x::account, 5, 0, 0, 0, 0, 1, 0);
        Expect.dueText("the output", Expect.output(x), "a b.");
        Expect.due("the next act", x.setSlack(3), 0);
        Expect.due("its undo", x.undo(), 0);
    }

    private static void loadWithAnError() {
        Expect.sentence("Promise 4", "NONE if the text has an error (then nothing else changes)");
        String[] wrong = {"shot 0 9", "week 5;week 5;", "shot 1 5;shot 6 1;", "map b;map b;", "shot 0 1;".repeat(13), "speed 9;ban 0 5 4;"};
        for (String text : wrong) {
            NewsReel x = Expect.made("shot 0 9;map a;ban 0 0 0;week 9;", "repeat 2{shot 0;map 0 3;};", "a b.");
            x.save(1);
            x.setSlack(7);
            x.writeReel();
            String state = Expect.state(x);
            Expect.due("load of " + text, Expect.load(x, text), -1);
            Expect.dueText("the state", Expect.state(x), state);
            Expect.due("acts that can be undone", x.count(13), 3);
            Expect.dueRow("account", x::account, 3, 0, 0, 0, 0, 0, 0);
            Expect.dueText("the output", Expect.output(x), "repeat 2{shot 0;map 0 3;};");
            Expect.due("undo", x.undo(), 2);
            Expect.due("SLACK after undo", x.count(7), 0);
            x.restore(1);
            Expect.due("WEEK of the saved state", x.count(3), 9);
        }
    }

    private static void loadKeepsSavedStates() {
        Expect.sentence("Promise 4", "Accounts and saved states stay.");
        NewsReel x = Expect.made("shot 5 400;map abcdefgh;ban 5 99 99;", "shot 0;map 0 400;", "abcdefgh.");
        String state = Expect.state(x);
        x.save(0);
        x.setWeek(99);
        x.save(1);
        Expect.load(x, "shot 1 1;map z;speed 20;");
        Expect.load(x, "");
        x.restore(0);
        Expect.dueText("the state of slot 0", Expect.state(x), state);
        x.restore(1);
        Expect.due("the banned shot of slot 1", x.shot(0, 2), 1);
    }

    private static void setWeek() {
        Expect.sentence("Promise 32",
                "`week`: 0 to 99",
                "Throws `IllegalArgumentException` if week is out of range",
                "Returns how many shots are banned then.");
        NewsReel x = Expect.library("shot 0 9;shot 0 9;shot 5 9;ban 0 0 0;ban 5 99 99;week 50;", 3);
        Expect.throwsArgumentAround("setWeek", x::setWeek, 0, 99);
        Expect.due("WEEK after exceptions", x.count(3), 50);
        Expect.due("acts after exceptions", x.account(0), 0);
        Expect.due("setWeek of 0", x.setWeek(0), 2);
        Expect.due("WEEK", x.count(3), 0);
        Expect.due("setWeek of 99", x.setWeek(99), 1);
        Expect.due("WEEK", x.count(3), 99);
        Expect.sentence("Promise 32", "Sets WEEK (also to what it is).");
        Expect.due("setWeek to what it is", x.setWeek(99), 1);
        Expect.due("acts", x.account(0), 3);
        Expect.due("undo", x.undo(), 2);
        Expect.due("WEEK after undo", x.count(3), 99);
        Expect.due("undo", x.undo(), 1);
        Expect.due("WEEK after undo", x.count(3), 0);
        Expect.due("setWeek without shots", new NewsReel().setWeek(99), 0);
    }

    private static void setSlack() {
        Expect.sentence("Promise 34", "`slack`: 0 to 100", "Throws `IllegalArgumentException` if slack is out of range");
        NewsReel x = Expect.library("slack 50;", 0);
        Expect.throwsArgumentAround("setSlack", x::setSlack, 0, 100);
        Expect.due("SLACK after exceptions", x.count(7), 50);
        Expect.due("acts after exceptions", x.account(0), 0);
        Expect.sentence("Promise 34", "Returns SLACK before.");
        Expect.due("setSlack of 0", x.setSlack(0), 50);
        Expect.due("SLACK", x.count(7), 0);
        Expect.due("setSlack of 100", x.setSlack(100), 0);
        Expect.due("SLACK", x.count(7), 100);
        Expect.sentence("Promise 34", "Sets SLACK (also to what it is).");
        Expect.due("setSlack to what it is", x.setSlack(100), 100);
        Expect.due("acts", x.account(0), 3);
        Expect.due("acts that can be undone", x.count(13), 3);
        Expect.due("undo", x.undo(), 2);
        Expect.due("SLACK after undo", x.count(7), 100);
        Expect.due("undo", x.undo(), 1);
        Expect.due("SLACK after undo", x.count(7), 0);
    }
}
