import java.util.ArrayList;
import java.util.List;
import java.util.Random;

/** Long runs of calls, made by seeded numbers, on the class and on SlowReel; each answer is compared. */
public final class ModelTest {
    /** Nothing is promised about an object after its 512th call. */
    private static final int CALLS = 512;
    private static final String[] WORDS = {"ah", "rome", "oslo", "news", "rhythm", "eye", "shot", "aeiou", "bucharest", "strength"};

    private final Random random;
    private final NewsReel x = new NewsReel();
    private final SlowReel slow = new SlowReel();
    private final List<String> told = new ArrayList<>();
    private int shotsHere = 0;
    private int calls = 0;

    private ModelTest(long seed) {
        random = new Random(seed);
    }

    public static void main(String[] args) {
        int runs = args.length > 0 ? Integer.parseInt(args[0]) : 2000;
        int first = args.length > 1 ? Integer.parseInt(args[1]) : 0;
        int wrong = 0;
        for (int seed = first; seed < first + runs && wrong < 3; seed++) {
            wrong += new ModelTest(seed).run(seed) ? 0 : 1;
        }
        System.out.println("ModelTest: " + runs + " runs, " + wrong + " not as due");
        if (wrong != 0) {
            System.exit(1);
        }
    }

    private boolean run(long seed) {
        for (int step = 0; calls < CALLS; step++) {
            if (!step(step)) {
                System.out.println("seed " + seed + " call " + calls + ": " + told.get(told.size() - 1));
                System.out.println("  the model: " + slow);
                return false;
            }
        }
        return true;
    }

    private int below(int bound) {
        return random.nextInt(bound);
    }

    /** Mostly within 0 to bound - 1, at times around it. */
    private int near(int bound) {
        int kind = below(40);
        if (kind == 0) {
            return -1;
        }
        if (kind == 1) {
            return bound;
        }
        if (kind == 2) {
            return new int[] {Integer.MIN_VALUE, Integer.MAX_VALUE, -7, bound + 1, 1000}[below(5)];
        }
        return bound <= 0 ? 0 : below(bound);
    }

    interface Made {
        Object answer();
    }

    private static Object result(Made call) {
        try {
            return call.answer();
        } catch (RuntimeException e) {
            return "throws " + e.getClass().getSimpleName();
        }
    }

    private boolean same(String call, Made mine, Made due) {
        if (calls == CALLS) {
            return true;
        }
        calls++;
        Object got = result(mine);
        Object want = result(due);
        told.add(call + " answered " + got + ", due is " + want);
        return got.equals(want);
    }

    private boolean step(int step) {
        if (step == 0 || below(80) == 0) {
            return text(library()) && same("load", x::load, slow::load) && errors() && newShots() && look();
        }
        int kind = below(100);
        if (step == 1 || kind < 9) {
            return text(broken(reelText(0, new int[] {1 + below(below(3) == 0 ? 32 : 8)}))) && same("edit", x::edit, slow::edit)
                    && errors() && look();
        }
        if (step == 2 || kind < 14) {
            return text(broken(voice())) && same("say", x::say, slow::say) && errors() && look();
        }
        return kind < 75 ? act() && look() : question();
    }

    private boolean newShots() {
        shotsHere = slow.count(0);
        return true;
    }

    /** Some questions after a change; at times all of them, as far as there are calls left. */
    private boolean look() {
        if (below(12) == 0) {
            return everything();
        }
        boolean fine = true;
        for (int i = 0; i < 3 && fine; i++) {
            fine = question();
        }
        return fine;
    }

    private boolean text(String text) {
        String cut = text.length() > 500 ? text.substring(0, 500) : text;
        if (!same("truncateText(0)", () -> x.truncateText(0), () -> slow.truncateText(0))) {
            return false;
        }
        for (int i = 0; i < cut.length(); i += 4) {
            int four = 0;
            for (int j = i; j < i + 4; j++) {
                four = four << 8 | (j < cut.length() ? cut.charAt(j) & 255 : below(256));
            }
            int bytes = four;
            if (!same("appendText", () -> x.appendText(bytes), () -> slow.appendText(bytes))) {
                return false;
            }
        }
        told.add(cut);
        return same("truncateText of " + cut, () -> x.truncateText(cut.length()), () -> slow.truncateText(cut.length()));
    }

    private boolean errors() {
        return same("errorCode", x::errorCode, () -> slow.errorCode)
                && same("errorPosition", x::errorPosition, () -> slow.errorPosition);
    }

    private String gap() {
        return below(8) == 0 ? " \n " : below(2) == 0 ? " " : "";
    }

    private String library() {
        StringBuilder out = new StringBuilder();
        if (below(8) != 0) {
            out.append("map eye;shot 0 40;shot 1 25;map news;");
        }
        int statements = 3 + below(below(3) == 0 ? 34 : 14);
        for (int i = 0; i < statements; i++) {
            String number = " " + below(below(12) == 0 ? 103 : below(2) == 0 ? 21 : 8);
            out.append(gap());
            switch (below(12)) {
                case 0, 1, 2, 3, 4: out.append("shot ").append(below(6)).append(" ")
                        .append(1 + below(below(60) == 0 ? 402 : below(2) == 0 ? 120 : 30)); break;
                case 5: String name = WORDS[below(10)];
                    boolean taken = out.indexOf(name + ";") >= 0 && below(9) != 0;
                    out.append("map ").append(taken ? "" + (char) ('a' + i % 26) : name); break;
                case 6: out.append("shot ").append(i % 6).append(" 20"); break;
                case 7, 8: int from = below(60); out.append("ban ").append(below(6)).append(" ").append(from)
                        .append(" ").append(from + below(below(3) == 0 ? 40 : 6)); break;
                default: String[] words = {"week", "speed", "pause", "least", "slack"};
                    String word = words[below(5)];
                    if (out.indexOf(word) < 0 || below(9) == 0) {
                        out.append(word).append(below(9) == 0 ? number : " " + (1 + below(20)));
                    } else {
                        out.append("shot 1 7");
                    }
            }
            out.append(gap()).append(";");
        }
        return broken(out.toString());
    }

    private String reelText(int blocks, int[] items) {
        StringBuilder out = new StringBuilder();
        int own = blocks == 0 ? 31 : below(6);
        for (int i = 0; i < own && items[0] > 0; i++) {
            items[0]--;
            out.append(gap());
            int kind = below(10);
            if (kind < 4 || kind < 6 && slow.count(1) == 0) {
                int shot = below(150) == 0 ? shotsHere : below(Math.max(shotsHere, 1));
                out.append("shot ").append(shot);
                if (below(2) == 0) {
                    int length = shot < shotsHere ? slow.shot(shot, 1) : 5;
                    int first = below(length);
                    out.append(" from ").append(first).append(gap()).append(" to ")
                            .append(first + below(length - first + (below(60) == 0 ? 2 : 0)));
                }
            } else if (kind < 6) {
                int map = below(150) == 0 ? slow.count(1) : below(Math.max(slow.count(1), 1));
                out.append("map ").append(map).append(" ").append(1 + below(below(40) == 0 ? 401 : 25));
            } else {
                boolean mix = kind < 8;
                out.append(mix ? "mix " : "repeat ").append(mix ? below(below(9) == 0 ? 42 : 12) : 1 + below(below(4) == 0 ? 9 : 4));
                out.append(gap()).append("{").append(reelText(blocks + 1, items)).append(gap()).append("}");
            }
            out.append(gap()).append(";");
        }
        return out.toString();
    }

    private String voice() {
        StringBuilder out = new StringBuilder();
        int words = below(below(4) == 0 ? 64 : 14);
        for (int i = 0; i < words; i++) {
            out.append(WORDS[below(WORDS.length)]).append(below(4) == 0 || i == words - 1 ? "." : " ").append(gap());
        }
        return out.toString();
    }

    /** The text as it is, or with a fault in it. */
    private String broken(String text) {
        if (below(8) != 0 || text.isEmpty()) {
            return text;
        }
        int at = below(text.length());
        String signs = "; {}.09a\tzX7\u00e9\n";
        String sign = "" + signs.charAt(below(signs.length()));
        switch (below(4)) {
            case 0: return text.substring(0, at);
            case 1: return text.substring(0, at) + sign + text.substring(at);
            case 2: return text.substring(0, at) + text.substring(at + 1);
            default: return text.substring(0, at) + sign + text.substring(at + 1);
        }
    }

    private boolean act() {
        int items = slow.count(8);
        int a = near(items);
        int b = near(items);
        switch (below(13)) {
            case 0: return same("assemble", x::assemble, slow::assemble);
            case 1, 2: int map = near(slow.count(1));
                int frames = near(30) + (below(2) == 0 ? 1 : 0);
                int place = near(items + 1);
                return same("insert " + place + " " + map + " " + frames, () -> x.insert(place, map, frames),
                        () -> slow.insert(place, map, frames));
            case 3, 4: int by = near(below(5) == 0 ? 400 : 9);
                return same("trim " + a + " " + by, () -> x.trim(a, by), () -> slow.trim(a, by));
            case 5: return same("remove " + a, () -> x.remove(a), () -> slow.remove(a));
            case 6, 7: return same("move " + a + " " + b, () -> x.move(a, b), () -> slow.move(a, b));
            case 8: int week = near(100);
                return same("setWeek " + week, () -> x.setWeek(week), () -> slow.setWeek(week));
            case 9: int speed = near(below(2) == 0 ? 21 : 5);
                int pause = near(51);
                return same("setVoice " + speed + " " + pause, () -> x.setVoice(speed, pause), () -> slow.setVoice(speed, pause));
            case 10: int slack = near(101);
                return same("setSlack " + slack, () -> x.setSlack(slack), () -> slow.setSlack(slack));
            case 11: return same("undo", x::undo, slow::undo);
            default: int slot = near(2);
                if (below(3) == 0) {
                    return same("restore " + slot, () -> { x.restore(slot); return 0; }, () -> { slow.restore(slot); return 0; })
                            && newShots() && look();
                }
                return same("save " + slot, () -> { x.save(slot); return 0; }, () -> { slow.save(slot); return 0; });
        }
    }

    private boolean question() {
        int row = near(14);
        switch (below(12)) {
            case 0: return same("count " + row, () -> x.count(row), () -> slow.count(row));
            case 1: return same("reel " + row / 2, () -> x.reel(row / 2), () -> slow.reel(row / 2));
            case 2: return same("account " + row / 2, () -> x.account(row / 2), () -> slow.account(row / 2));
            case 3: return same("faults " + row / 2, () -> x.faults(row / 2), () -> slow.faults(row / 2));
            case 4: return same("best " + row / 5, () -> x.best(row / 5), () -> slow.best(row / 5));
            case 5: return same("share " + row / 2, () -> x.share(row / 2), () -> slow.share(row / 2));
            case 6: return below(2) == 0 ? same("pace", x::pace, slow::pace) : same("fits", x::fits, () -> slow.faults(0) == 0);
            case 7: return same("bestSpeed", x::bestSpeed, slow::bestSpeed);
            default: return questionOfOne();
        }
    }

    private boolean questionOfOne() {
        int what = near(7);
        int piece = near(slow.reel(0));
        int frame = near(slow.reel(1));
        switch (below(9)) {
            case 0: return same("piece " + piece + " " + what, () -> x.piece(piece, what), () -> slow.piece(piece, what));
            case 1: return same("screen " + frame, () -> x.screen(frame), () -> slow.screen(frame));
            case 2: int late = near(slow.reel(2));
                return same("spoken " + late, () -> x.spoken(late), () -> slow.spoken(late));
            case 3: int shot = near(slow.count(0));
                return same("shot " + shot + " " + what, () -> x.shot(shot, what), () -> slow.shot(shot, what));
            case 4: int map = near(slow.count(1));
                return same("map " + map + " " + what, () -> x.map(map, what), () -> slow.map(map, what));
            case 5: int ban = near(slow.count(2));
                return same("ban " + ban + " " + what, () -> x.ban(ban, what), () -> slow.ban(ban, what));
            case 6: int word = near(slow.count(10));
                return same("word " + word + " " + what, () -> x.word(word, what), () -> slow.word(word, what));
            case 7: int fault = near(slow.faults(0));
                int which = near(2);
                return same("fault " + fault + " " + which, () -> x.fault(fault, which), () -> slow.fault(fault, which));
            default: return below(8) != 0 || same("bestWeek", x::bestWeek, slow::bestWeek);
        }
    }

    private boolean everything() {
        boolean fine = true;
        for (int i = -1; i < 15 && fine; i++) {
            int what = i;
            fine = same("count " + what, () -> x.count(what), () -> slow.count(what))
                    && same("reel " + what, () -> x.reel(what), () -> slow.reel(what))
                    && same("account " + what, () -> x.account(what), () -> slow.account(what))
                    && same("faults " + what, () -> x.faults(what), () -> slow.faults(what));
        }
        for (int i = 0; i < 4 && fine; i++) {
            int what = i;
            fine = same("best " + what, () -> x.best(what), () -> slow.best(what));
        }
        int camera = near(6);
        fine = fine && same("share " + camera, () -> x.share(camera), () -> slow.share(camera))
                && same("pace", x::pace, slow::pace)
                && same("fits", x::fits, () -> slow.faults(0) == 0)
                && same("bestSpeed", x::bestSpeed, slow::bestSpeed);
        return fine && pieces() && words() && written();
    }

    private boolean pieces() {
        boolean fine = true;
        for (int i = 0; i < slow.reel(0) && fine; i++) {
            int piece = i;
            for (int j = 0; j < 7 && fine; j++) {
                int what = j;
                fine = same("piece " + piece + " " + what, () -> x.piece(piece, what), () -> slow.piece(piece, what));
            }
        }
        return fine;
    }

    private boolean words() {
        boolean fine = true;
        for (int i = 0; i < slow.count(10) && fine; i++) {
            int word = i;
            for (int j = 0; j < 6 && fine; j++) {
                int what = j;
                fine = same("word " + word + " " + what, () -> x.word(word, what), () -> slow.word(word, what));
            }
        }
        for (int i = 0; i < slow.faults(0) && fine; i++) {
            int fault = i;
            fine = same("fault " + fault, () -> x.fault(fault, 0), () -> slow.fault(fault, 0))
                    && same("fault " + fault, () -> x.fault(fault, 1), () -> slow.fault(fault, 1));
        }
        return fine;
    }

    private boolean written() {
        boolean fine = below(2) == 0 ? same("writeReel", x::writeReel, slow::writeReel)
                : same("writeVoice", x::writeVoice, slow::writeVoice);
        for (int i = -1; i <= slow.output.length() && fine; i++) {
            int index = i;
            fine = same("output " + index, () -> x.output(index), () -> slow.output(index));
        }
        return fine;
    }
}
