import java.util.Random;

/** Runs of calls by chance (always the same ones), each answer compared with the model's. */
public final class ModelTest {
    private final Check check = new Check();
    private Random chance = new Random(0);
    private DreamMatins x = new DreamMatins();
    private Model model = new Model();
    private boolean small = false;
    private String about = "";

    public static void main(String[] args) {
        int runs = args.length > 0 ? Integer.parseInt(args[0]) : 300;
        ModelTest test = new ModelTest();
        for (int run = 0; run < runs; run++) {
            test.run(run);
        }
        test.check.end();
    }

    private void run(int number) {
        chance = new Random(number);
        x = new DreamMatins();
        model = new Model();
        small = true;
        int houses = 0;
        for (int calls = 0; calls < 400; calls++) {
            if (calls == 20 || chance.nextInt(150) == 0) {
                small = chance.nextInt(3) == 0;
                tell(number + " house " + houses++);
            } else if (chance.nextInt(2) == 0) {
                act();
            } else {
                ask();
            }
        }
    }

    private void tell(String name) {
        RandomHouse house = new RandomHouse(chance, small ? 3 : 8);
        boolean faulty = house.text.length() > 700 || chance.nextInt(8) == 0;
        about = "run " + name + " [" + house.text + "] ";
        if (faulty) {
            String text = house.text.substring(0, Math.min(690, house.text.length())) + ",";
            check.holds(about + "has a fault", Check.read(x, text) != 0);
            model.status[0]++;
        } else {
            due("house", 0, () -> Check.read(x, house.text));
            model.house(house.world);
        }
    }

    private void due(String what, long want, Check.Call call) {
        check.due(about + what, want, call);
    }

    /** Mostly one of 0 to n - 1, now and then one beside. */
    private int near(int n) {
        return chance.nextInt(12) == 0 ? chance.nextInt(n + 6) - 3 : chance.nextInt(Math.max(1, n));
    }

    private int monk() {
        return near(model.world.monks.size());
    }

    private int room() {
        return near(model.world.rooms.size());
    }

    private void act() {
        int a = monk();
        int r = room();
        int to = room();
        boolean is = chance.nextBoolean();
        switch (chance.nextInt(14)) {
            case 0: case 1: { int n = 1 + near(chance.nextInt(9) == 0 ? 20 : 3); due("nights " + n, model.nights(n), () -> x.nights(n)); break; }
            case 2: { int n = 1 + near(9); due("fish", model.fish(a, n), () -> x.fish(a, n)); break; }
            case 3: { int n = near(100); due("pray", model.pray(a, n), () -> x.pray(a, n)); break; }
            case 4: due("tie", model.tie(a, is), () -> x.tie(a, is) ? 1 : 0); break;
            case 5: due("move", model.move(a, r), () -> x.move(a, r)); break;
            case 6: due("door", model.door(r, is, to), () -> x.door(r, is, to)); break;
            case 7: case 8: due("undo", model.undo(), () -> x.undo()); break;
            case 9: { int k = 1 + near(20); int v = aVerse(); due("hear", model.hear(k, v, is), () -> x.hear(k, v, is)); break; }
            case 10: if (chance.nextInt(3) == 0) { x.forget(); model.forget(); } break;
            case 11: if (chance.nextInt(3) == 0) { x.image(); model.image(); } break;
            case 12: if (chance.nextInt(3) == 0) { due("restore", model.restore(), () -> x.restore() ? 1 : 0); } break;
            default: break;
        }
    }

    private int aVerse() {
        boolean known = !model.world.rooms.isEmpty() && chance.nextInt(4) != 0;
        return known ? model.world.rooms.get(chance.nextInt(model.world.rooms.size())).verse : near(100);
    }

    private void ask() {
        if (chance.nextBoolean()) {
            askWhatIs();
        } else {
            askAhead();
        }
    }

    private void askWhatIs() {
        int a = monk();
        int b = monk();
        int r = room();
        boolean is = chance.nextBoolean();
        int two = near(2);
        switch (chance.nextInt(11)) {
            case 0: { int w = near(15); if (w != 11) { due("count " + w, model.count(w), () -> x.count(w)); } break; }
            case 1: { int w = near(4); due("room", model.room(r, w), () -> x.room(r, w)); break; }
            case 2: case 3: { int w = near(6); due("monk", model.monk(a, w), () -> x.monk(a, w)); break; }
            case 4: due("ring", model.ring(r, is, two), () -> x.ring(r, is, two)); break;
            case 5: due("from", model.from(r), () -> x.from(r)); break;
            case 6: due("meeting", model.meeting(two), () -> x.meeting(two)); break;
            case 7: { int m = chance.nextInt(3) == 0 ? -1 : a; if (model.world.monks.size() <= 3) { due("leastFish " + m, model.leastFish(m), () -> x.leastFish(m)); } break; }
            case 8: due("choir", model.choir(), () -> x.choir()); break;
            case 9: due("couples", model.couples(), () -> x.couples()); break;
            default: due("game", model.game(a, b, two), () -> x.game(a, b, two)); break;
        }
    }

    private void askAhead() {
        int a = monk();
        int b = monk();
        int k = 1 + near(chance.nextInt(4) == 0 ? 60 : 8);
        int n = near(chance.nextInt(4) == 0 ? 61 : 8);
        int two = near(2);
        int three = near(3);
        int seed = chance.nextInt();
        switch (chance.nextInt(16)) {
            case 0: due("up " + k + " " + three, model.up(k, three), () -> x.up(k, three)); break;
            case 1: due("then", model.then(a, n, two), () -> x.then(a, n, two)); break;
            case 2: due("full", model.full(), () -> x.full()); break;
            case 3: due("meets", model.meets(a, b), () -> x.meets(a, b)); break;
            case 4: due("often", model.often(a, n), () -> x.often(a, n)); break;
            case 5: due("lonely", model.lonely(k), () -> x.lonely(k)); break;
            case 6: due("crowd", model.crowd(n), () -> x.crowd(n)); break;
            case 7: due("toPray", model.toPray(a, k), () -> x.toPray(a, k)); break;
            case 8: due("needless", model.needless(n), () -> x.needless(n)); break;
            case 9: due("psalm", model.psalm(n), () -> x.psalm(n)); break;
            case 10: due("spread", model.spread(n), () -> x.spread(n)); break;
            case 11: due("silent", model.silent(), () -> x.silent()); break;
            case 12: due("eaten " + three, model.eaten(three), () -> x.eaten(three)); break;
            case 13: due("listen " + two, model.listen(two), () -> x.listen(two)); break;
            default: due("years " + seed, model.years(seed, n, three), () -> x.years(seed, n, three)); break;
        }
    }
}
