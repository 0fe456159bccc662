import java.util.ArrayList;
import java.util.List;
import java.util.function.ToIntFunction;

/**
 * A PaperHouse for tests. The document tells nothing of an object behind its 512th call: so a new object takes the old
 * one's place then, does the changing calls again, each with the same answer, and goes on.
 */
final class House {
    static final int MOST_CALLS = 512;

    private final List<ToIntFunction<PaperHouse>> changes = new ArrayList<>();
    private final List<Integer> answers = new ArrayList<>();
    private PaperHouse house = new PaperHouse();
    private int calls = 0;

    /** How many changing calls more a test may make and still ask something behind them. */
    int room() {
        return MOST_CALLS - 1 - changes.size();
    }

    private int change(ToIntFunction<PaperHouse> call) {
        makeRoom();
        calls++;
        int answer = call.applyAsInt(house);
        changes.add(call);
        answers.add(answer);
        return answer;
    }

    private int ask(ToIntFunction<PaperHouse> call) {
        makeRoom();
        calls++;
        return call.applyAsInt(house);
    }

    private void makeRoom() {
        if (calls < MOST_CALLS) {
            return;
        }
        if (changes.size() >= MOST_CALLS) {
            throw new IllegalStateException("a test uses an object for more than " + MOST_CALLS + " calls");
        }
        house = new PaperHouse();
        for (calls = 0; calls < changes.size(); calls++) {
            int answer = changes.get(calls).applyAsInt(house);
            if (answer != answers.get(calls)) {
                throw new IllegalStateException("call " + calls + " answers " + answer + " on a new object, not "
                        + answers.get(calls));
            }
        }
    }

    int feed(int a, int b, int c, int d, int e) {
        return change(x -> x.feed(a, b, c, d, e));
    }

    int end(int n) {
        return change(x -> x.end(n));
    }

    int cut() {
        return change(PaperHouse::cut);
    }

    int pattern(int i, int k) {
        return ask(x -> x.pattern(i, k));
    }

    int fold() {
        return change(PaperHouse::fold);
    }

    int book(int sheets, int way, int caliper) {
        return change(x -> x.book(sheets, way, caliper));
    }

    int page(int s, int side, int row, int column) {
        return ask(x -> x.page(s, side, row, column));
    }

    int where(int page, int what) {
        return ask(x -> x.where(page, what));
    }

    int draw(int page) {
        return change(x -> x.draw(page));
    }

    int point(int s, int side, int at, int y) {
        return ask(x -> x.point(s, side, at, y));
    }

    int mount(int s, int side) {
        return change(x -> x.mount(s, side));
    }

    int key(int zone, int v) {
        return change(x -> x.key(zone, v));
    }

    int aim(int density, int tolerance, int spoiled) {
        return change(x -> x.aim(density, tolerance, spoiled));
    }

    int settled(int zone) {
        return ask(x -> x.settled(zone));
    }

    int print(int n) {
        return change(x -> x.print(n));
    }

    int good(int n) {
        return change(x -> x.good(n));
    }

    int zone(int zone, int what) {
        return ask(x -> x.zone(zone, what));
    }

    int number(int k) {
        return ask(x -> x.number(k));
    }

    int sorts(int letter, int many, int width) {
        return change(x -> x.sorts(letter, many, width));
    }

    int set(int measure) {
        return change(x -> x.set(measure));
    }

    int distribute(int line) {
        return change(x -> x.distribute(line));
    }

    int line(int line, int what) {
        return ask(x -> x.line(line, what));
    }

    int strip(int line, int i) {
        return ask(x -> x.strip(line, i));
    }

    int left(int letter) {
        return ask(x -> x.left(letter));
    }

    int pile(int w, int h) {
        return change(x -> x.pile(w, h));
    }

    int piece(int k, int what) {
        return ask(x -> x.piece(k, what));
    }

    int on(int at, int y) {
        return ask(x -> x.on(at, y));
    }

    int gather() {
        return change(PaperHouse::gather);
    }

    int letters() {
        return change(PaperHouse::letters);
    }

    int bundles(int least, int most) {
        return change(x -> x.bundles(least, most));
    }

    int letter(int i, int what) {
        return ask(x -> x.letter(i, what));
    }

    int bundle(int k, int what) {
        return ask(x -> x.bundle(k, what));
    }

    int strike(int i) {
        return change(x -> x.strike(i));
    }

    int job(int colour, int print, int bind, int due) {
        return change(x -> x.job(colour, print, bind, due));
    }

    int times(int change, int dry) {
        return change(x -> x.times(change, dry));
    }

    int drop(int job) {
        return change(x -> x.drop(job));
    }

    int order(int k) {
        return ask(x -> x.order(k));
    }

    int when(int job, int what) {
        return ask(x -> x.when(job, what));
    }

    int count(int what) {
        return ask(x -> x.count(what));
    }
}
